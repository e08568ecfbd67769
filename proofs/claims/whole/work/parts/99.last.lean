theorem zz_last : nI 0 = 0 := nI_0
