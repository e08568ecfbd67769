// For each promise of the document: ordinary inputs, the edges that it names, and wrong inputs.
public final class PromisesTest {
    private static int wrong = 0;
    private static String promise = "";

    private static void due(String call, int got, int want) {
        if (got != want) {
            wrong++;
            System.out.println(promise + ": " + call + " answered " + got + ", due is " + want);
        }
    }

    /** Puts texts at the end of a room's copy, which has the given number of texts. */
    private static void type(ChangeRooms x, int room, int count, int... texts) {
        for (int i = 0; i < texts.length; i++) {
            due("insert(" + room + ", " + (count + i) + ", " + texts[i] + ")",
                    x.insert(room, count + i, texts[i]), count + i + 1);
        }
    }

    /** Makes a room's copy these texts, whatever it was. */
    private static void retype(ChangeRooms x, int room, int... texts) {
        for (int i = 0; i < 20; i++) {
            x.delete(room, 0);
        }
        type(x, room, 0, texts);
    }

    private static void dueFile(ChangeRooms x, int room, int... texts) {
        due("lines(" + room + ")", x.lines(room), texts.length);
        for (int i = 0; i < texts.length; i++) {
            due("line(" + room + ", " + i + ")", x.line(room, i), texts[i]);
        }
        due("line(" + room + ", " + texts.length + ")", x.line(room, texts.length), -2);
    }

    private static void dueSources(ChangeRooms x, int room, int... sources) {
        for (int i = 0; i < sources.length; i++) {
            due("source(" + room + ", " + i + ")", x.source(room, i), sources[i]);
        }
        due("source(" + room + ", " + sources.length + ")", x.source(room, sources.length), -2);
    }

    private static void dueCopy(ChangeRooms x, int room, int... texts) {
        for (int i = 0; i < texts.length; i++) {
            due("text(" + room + ", " + i + ")", x.text(room, i), texts[i]);
        }
        due("text(" + room + ", " + texts.length + ")", x.text(room, texts.length), -2);
    }

    /** A change needs just these of all changes. */
    private static void dueNeeds(ChangeRooms x, int change, int... needed) {
        for (int other = 0; other < x.changes(); other++) {
            int want = 0;
            for (int n : needed) {
                if (n == other) {
                    want = 1;
                }
            }
            due("needs(" + change + ", " + other + ")", x.needs(change, other), want);
        }
    }

    /** Rooms 0 and 1 both have change 0, which put the texts. */
    private static ChangeRooms twoRooms(int... texts) {
        ChangeRooms x = new ChangeRooms();
        type(x, 0, 0, texts);
        due("commit(0)", x.commit(0), 1);
        due("pull(1, 0, 0)", x.pull(1, 0, 0), 1);
        return x;
    }

    private static int[] many(int count, int text) {
        int[] texts = new int[count];
        java.util.Arrays.fill(texts, text);
        return texts;
    }

    private static final int[] FAR = {
        -1, 3, 4, 16, 20, 32, 64, Integer.MIN_VALUE, Integer.MAX_VALUE, Integer.MIN_VALUE + 1};

    private static void newObject() {
        promise = "promise 1";
        ChangeRooms x = new ChangeRooms();
        due("changes()", x.changes(), 0);
        for (int room = 0; room < 3; room++) {
            dueFile(x, room);
            dueCopy(x, room);
            dueSources(x, room);
            due("has", x.has(room, 0), -2);
            due("unrecorded", x.unrecorded(room), 0);
            due("commit", x.commit(room), 0);
            due("revert", x.revert(room), 0);
            due("compare", x.compare(0, room), 1);
            due("pull", x.pull(room, 0, 0), -2);
            due("uncommit", x.uncommit(room, 0), -2);
        }
        due("changes()", x.changes(), 0);
        type(x, 0, 0, 5);
        x.commit(0);
        ChangeRooms y = new ChangeRooms();
        due("changes() of another object", y.changes(), 0);
        due("lines(0) of another object", y.lines(0), 0);
        due("text(0, 0) of another object", y.text(0, 0), -2);
    }

    private static void inserting() {
        promise = "promise 2";
        ChangeRooms x = new ChangeRooms();
        due("insert(0, 0, 0)", x.insert(0, 0, 0), 1);
        due("insert(0, 0, 9)", x.insert(0, 0, 9), 2);
        due("insert(0, 1, 4)", x.insert(0, 1, 4), 3);
        due("insert(0, 3, 7)", x.insert(0, 3, 7), 4);
        dueCopy(x, 0, 9, 4, 0, 7);
        dueCopy(x, 1);
        due("insert(2, 0, 1)", x.insert(2, 0, 1), 1);
        dueCopy(x, 2, 1);
        dueFile(x, 0);
        due("insert(0, 5, 1)", x.insert(0, 5, 1), -2);
        due("insert(0, -1, 1)", x.insert(0, -1, 1), -2);
        due("insert(0, 0, -1)", x.insert(0, 0, -1), -3);
        due("insert(0, 0, 10)", x.insert(0, 0, 10), -3);
        due("insert(0, 5, 10)", x.insert(0, 5, 10), -2);
        for (int far : FAR) {
            due("insert(" + far + ", 99, 99)", x.insert(far, 99, 99), -1);
        }
        dueCopy(x, 0, 9, 4, 0, 7);
        type(x, 1, 0, many(20, 3));
        due("insert(1, 0, 1) of 20", x.insert(1, 0, 1), -4);
        due("insert(1, 20, 1) of 20", x.insert(1, 20, 1), -4);
        due("insert(1, 21, 1) of 20", x.insert(1, 21, 1), -2);
        due("insert(1, 20, 10) of 20", x.insert(1, 20, 10), -3);
        dueCopy(x, 1, many(20, 3));
        dueCopy(x, 2, 1);
    }

    private static void deleting() {
        promise = "promise 3";
        ChangeRooms x = new ChangeRooms();
        type(x, 1, 0, 1, 2, 3, 4);
        type(x, 2, 0, 8, 9);
        due("delete(1, 4)", x.delete(1, 4), -2);
        due("delete(1, -1)", x.delete(1, -1), -2);
        for (int far : FAR) {
            due("delete(" + far + ", 0)", x.delete(far, 0), -1);
        }
        due("delete(1, 1)", x.delete(1, 1), 2);
        dueCopy(x, 1, 1, 3, 4);
        due("delete(1, 2)", x.delete(1, 2), 4);
        dueCopy(x, 1, 1, 3);
        due("delete(1, 0)", x.delete(1, 0), 1);
        due("delete(1, 0)", x.delete(1, 0), 3);
        due("delete(1, 0)", x.delete(1, 0), -2);
        dueCopy(x, 1);
        dueCopy(x, 2, 8, 9);
        type(x, 0, 0, many(20, 6));
        due("delete(0, 19)", x.delete(0, 19), 6);
        due("insert(0, 0, 5)", x.insert(0, 0, 5), 20);
        due("delete(0, 20)", x.delete(0, 20), -2);
        x.commit(0);
        due("delete(0, 0)", x.delete(0, 0), 5);
        due("lines(0)", x.lines(0), 20);
    }

    private static void reverting() {
        promise = "promise 4";
        ChangeRooms x = new ChangeRooms();
        type(x, 0, 0, 1, 2, 3);
        x.commit(0);
        x.delete(0, 1);
        x.insert(0, 0, 7);
        type(x, 1, 0, 4, 4);
        due("revert(0)", x.revert(0), 3);
        dueCopy(x, 0, 1, 2, 3);
        dueFile(x, 0, 1, 2, 3);
        dueCopy(x, 1, 4, 4);
        due("revert(1)", x.revert(1), 0);
        dueCopy(x, 1);
        due("uncommit(0, 0)", x.uncommit(0, 0), 0);
        due("revert(0)", x.revert(0), 0);
        dueCopy(x, 0);
        for (int far : FAR) {
            due("revert(" + far + ")", x.revert(far), -1);
        }
    }

    private static void committing() {
        promise = "promise 5";
        ChangeRooms x = new ChangeRooms();
        type(x, 0, 0, 1, 2, 3, 4, 5, 6);
        due("commit(0)", x.commit(0), 1);
        due("commit(0) with nothing to record", x.commit(0), 0);
        retype(x, 0, 9, 1, 3, 7, 5, 6, 8);
        due("commit(0)", x.commit(0), 4);
        dueFile(x, 0, 9, 1, 3, 7, 5, 6, 8);
        dueCopy(x, 0, 9, 1, 3, 7, 5, 6, 8);
        dueSources(x, 0, 1, 0, 0, 3, 0, 0, 4);
        due("weight(1)", x.weight(1), 1);
        due("weight(2)", x.weight(2), 1);
        due("weight(3)", x.weight(3), 2);
        due("weight(4)", x.weight(4), 1);
        due("changes()", x.changes(), 5);
        for (int c = 0; c < 5; c++) {
            due("has(0, " + c + ")", x.has(0, c), 1);
            due("has(1, " + c + ")", x.has(1, c), 0);
        }
        type(x, 1, 0, 1, 2);
        due("commit(1)", x.commit(1), 1);
        dueSources(x, 1, 5, 5);
        for (int far : FAR) {
            due("commit(" + far + ")", x.commit(far), -1);
        }
    }

    private static void firstOfTheGreatestMatchings() {
        promise = "promise 5, the matching";
        // The lists (0,0) and (1,0) have equally many pairs: the first line is kept,
        // so an edit before the first line does not hinder the change.
        ChangeRooms x = twoRooms(1, 1);
        x.delete(0, 0);
        due("commit(0)", x.commit(0), 1);
        x.insert(1, 0, 5);
        due("commit(1)", x.commit(1), 1);
        due("pull(1, 0, 1)", x.pull(1, 0, 1), 1);
        dueFile(x, 1, 5, 1);
        // The first line pairs with the first of the equal texts.
        ChangeRooms y = new ChangeRooms();
        type(y, 0, 0, 1);
        y.commit(0);
        type(y, 0, 1, 1, 1);
        due("commit(0)", y.commit(0), 1);
        dueSources(y, 0, 0, 1, 1);
        // 1 2 to 2 1: (0,1) comes before (1,0).
        ChangeRooms z = new ChangeRooms();
        type(z, 0, 0, 1, 2);
        z.commit(0);
        retype(z, 0, 2, 1);
        due("unrecorded(0)", z.unrecorded(0), 2);
        due("commit(0)", z.commit(0), 2);
        dueSources(z, 0, 1, 0);
        // The most pairs count before the order: 1 2 3 to 2 3 1 keeps 2 3.
        ChangeRooms w = new ChangeRooms();
        type(w, 0, 0, 1, 2, 3);
        w.commit(0);
        retype(w, 0, 2, 3, 1);
        due("commit(0)", w.commit(0), 2);
        dueSources(w, 0, 0, 0, 2);
        due("weight(1)", w.weight(1), 1);
        // 1 2 1 3 to 1 3: the first 1 is kept although the second stands next to 3.
        ChangeRooms v = twoRooms(1, 2, 1, 3);
        retype(v, 0, 1, 3);
        due("commit(0)", v.commit(0), 1);
        v.insert(1, 0, 8);
        due("commit(1)", v.commit(1), 1);
        due("pull(1, 0, 1)", v.pull(1, 0, 1), 1);
        dueFile(v, 1, 8, 1, 3);
        // 1 1 2 to 2 1 1: the pairs (0,1), (1,2), not 2 alone.
        ChangeRooms u = new ChangeRooms();
        type(u, 0, 0, 1, 1, 2);
        u.commit(0);
        retype(u, 0, 2, 1, 1);
        due("unrecorded(0)", u.unrecorded(0), 2);
        due("commit(0)", u.commit(0), 2);
        dueSources(u, 0, 1, 0, 0);
        // All texts others: one change takes all and puts all.
        ChangeRooms t = new ChangeRooms();
        type(t, 0, 0, 1, 2, 3);
        t.commit(0);
        retype(t, 0, 4, 5);
        due("commit(0)", t.commit(0), 1);
        due("weight(1)", t.weight(1), 5);
        dueFile(t, 0, 4, 5);
        // More lines than 20 on the way from one full file to another do not matter.
        ChangeRooms r = new ChangeRooms();
        type(r, 0, 0, 1, 1, 1, 1, 1, 5, 2, 2, 2, 2, 2, 2, 2, 2, 2, 2, 2, 2, 2, 2);
        r.commit(0);
        retype(r, 0, 3, 3, 3, 3, 3, 3, 3, 3, 3, 3, 3, 3, 3, 3, 5, 4, 4, 4, 4, 4);
        due("commit(0)", r.commit(0), 2);
        due("lines(0)", r.lines(0), 20);
        due("source(0, 13)", r.source(0, 13), 1);
        due("source(0, 14)", r.source(0, 14), 0);
        due("source(0, 19)", r.source(0, 19), 2);
        due("weight(1)", r.weight(1), 19);
    }

    private static void commitLimits() {
        promise = "promise 5, limits";
        ChangeRooms x = new ChangeRooms();
        for (int i = 0; i < 15; i++) {
            due("insert", x.insert(0, i, i % 10), i + 1);
            due("commit(0)", x.commit(0), 1);
        }
        due("insert(0, 0, 9)", x.insert(0, 0, 9), 16);
        due("insert(0, 16, 9)", x.insert(0, 16, 9), 17);
        due("commit(0) of two when there are 15", x.commit(0), -3);
        due("changes()", x.changes(), 15);
        due("lines(0)", x.lines(0), 15);
        due("unrecorded(0)", x.unrecorded(0), 2);
        due("delete(0, 16)", x.delete(0, 16), 9);
        due("commit(0) of one when there are 15", x.commit(0), 1);
        due("changes()", x.changes(), 16);
        due("commit(0) of none when there are 16", x.commit(0), 0);
        due("uncommit(0, 15)", x.uncommit(0, 15), 15);
        due("commit(0) of one when there are 16", x.commit(0), -3);
        due("insert(1, 0, 1)", x.insert(1, 0, 1), 1);
        due("commit(1) of one when there are 16", x.commit(1), -3);
        due("pull(1, 0, 0) when there are 16", x.pull(1, 0, 0), -5);

        ChangeRooms y = new ChangeRooms();
        type(y, 0, 0, many(20, 1));
        type(y, 1, 0, many(20, 2));
        type(y, 2, 0, many(19, 3));
        due("commit(0)", y.commit(0), 1);
        due("commit(1)", y.commit(1), 1);
        due("commit(2)", y.commit(2), 1);
        retype(y, 0, 4, 4);
        due("commit(0) with 61 lines", y.commit(0), -4);
        due("lines(0)", y.lines(0), 20);
        due("text(0, 1)", y.text(0, 1), 4);
        due("changes()", y.changes(), 3);
        due("uncommit(2, 2)", y.uncommit(2, 2), 0);
        due("commit(0) with 61 lines", y.commit(0), -4);
        due("commit(2) with 78 lines", y.commit(2), -4);
        y.delete(0, 0);
        due("commit(0) with 60 lines", y.commit(0), 1);
        dueFile(y, 0, 4);
        dueSources(y, 0, 3);
        due("pull(0, 1, 1) beside the sixtieth line", y.pull(0, 1, 1), -6);
        y.delete(0, 0);
        due("commit(0) that puts nothing", y.commit(0), 1);
        due("lines(0)", y.lines(0), 0);
    }

    private static void tooManyChangesAndLines() {
        promise = "promise 5, both limits";
        ChangeRooms x = new ChangeRooms();
        type(x, 0, 0, many(20, 1));
        x.commit(0);
        for (int i = 0; i < 7; i++) {
            x.delete(0, 0);
            due("commit(0)", x.commit(0), 1);
            x.insert(0, 0, 1);
            due("commit(0)", x.commit(0), 1);
        }
        type(x, 1, 0, many(20, 2));
        due("commit(1)", x.commit(1), 1);
        due("changes()", x.changes(), 16);
        type(x, 2, 0, many(20, 3));
        due("commit(2) with 17 changes and 67 lines", x.commit(2), -3);
    }

    private static void uncommitting() {
        promise = "promise 6";
        ChangeRooms x = twoRooms(1, 2, 3);
        retype(x, 0, 1, 5, 6, 3);
        due("commit(0)", x.commit(0), 1);
        due("uncommit(1, 1)", x.uncommit(1, 1), -3);
        due("uncommit(0, 2)", x.uncommit(0, 2), -2);
        due("uncommit(0, -1)", x.uncommit(0, -1), -2);
        due("uncommit(0, 16)", x.uncommit(0, 16), -2);
        for (int far : FAR) {
            due("uncommit(" + far + ", 9)", x.uncommit(far, 9), -1);
        }
        due("uncommit(0, 0) with 1 needing it", x.uncommit(0, 0), -4);
        dueFile(x, 0, 1, 5, 6, 3);
        due("uncommit(0, 1)", x.uncommit(0, 1), 3);
        dueFile(x, 0, 1, 2, 3);
        dueSources(x, 0, 0, 0, 0);
        dueCopy(x, 0, 1, 5, 6, 3);
        due("has(0, 1)", x.has(0, 1), 0);
        due("compare(0, 1)", x.compare(0, 1), 1);
        due("uncommit(0, 1) again", x.uncommit(0, 1), -3);
        due("changes()", x.changes(), 2);
        due("weight(1)", x.weight(1), 3);
        due("canPull(2, 1, 0)", x.canPull(2, 1, 0), 1);
        type(x, 2, 0, 8, 9);
        due("commit(2)", x.commit(2), 1);
        due("uncommit(0, 0) after work in other rooms", x.uncommit(0, 0), 0);
        dueFile(x, 0);
        dueFile(x, 1, 1, 2, 3);
        dueCopy(x, 0, 1, 5, 6, 3);
        due("commit(0)", x.commit(0), 1);
        dueSources(x, 0, 3, 3, 3, 3);
    }

    private static void uncommitWhatDoesNotStand() {
        promise = "promise 6, the run after it";
        ChangeRooms x = twoRooms(1, 2);
        x.insert(0, 1, 5);
        due("commit(0)", x.commit(0), 1);
        x.delete(0, 1);
        due("commit(0)", x.commit(0), 1);
        x.insert(1, 1, 6);
        due("commit(1)", x.commit(1), 1);
        dueNeeds(x, 3, 0);
        due("pull(0, 1, 3)", x.pull(0, 1, 3), 1);
        dueFile(x, 0, 1, 6, 2);
        due("uncommit(0, 2) that nothing needs and that does not stand", x.uncommit(0, 2), -4);
        due("has(0, 2)", x.has(0, 2), 1);
        due("uncommit(0, 1) that 2 needs", x.uncommit(0, 1), -4);
        due("uncommit(0, 3)", x.uncommit(0, 3), 2);
        due("uncommit(0, 2)", x.uncommit(0, 2), 3);
        dueFile(x, 0, 1, 5, 2);
        // Change 3 made the run after change 1 stand again, but 2 and 3 need change 1.
        ChangeRooms y = new ChangeRooms();
        type(y, 0, 0, 1, 2, 3);
        y.commit(0);
        y.insert(0, 1, 4);
        y.commit(0);
        y.insert(0, 2, 5);
        due("commit(0)", y.commit(0), 1);
        y.delete(0, 2);
        due("commit(0)", y.commit(0), 1);
        dueNeeds(y, 3, 0, 1, 2);
        due("uncommit(0, 1) that stands but is needed", y.uncommit(0, 1), -4);
        due("pull(1, 0, 1)", y.pull(1, 0, 1), 2);
        due("uncommit(1, 1) in a room without what needs it", y.uncommit(1, 1), 3);
    }

    private static void uncommitTooLong() {
        promise = "promise 6, the length";
        ChangeRooms x = new ChangeRooms();
        type(x, 0, 0, 9, 9, 9, 9, 9, 9, 9, 9, 9, 1, 2, 3);
        due("commit(0)", x.commit(0), 1);
        retype(x, 0, 1, 2, 3);
        due("commit(0)", x.commit(0), 1);
        retype(x, 0, 1, 2, 8, 8, 8, 8, 8, 8, 8, 8, 3);
        due("commit(0)", x.commit(0), 1);
        due("uncommit(0, 1) to 20 lines", x.uncommit(0, 1), 20);
        due("line(0, 8)", x.line(0, 8), 9);
        due("line(0, 19)", x.line(0, 19), 3);
        x.revert(0);
        for (int i = 0; i < 9; i++) {
            x.delete(0, 0);
        }
        due("commit(0)", x.commit(0), 1);
        due("insert(0, 11, 7)", x.insert(0, 11, 7), 12);
        due("commit(0)", x.commit(0), 1);
        due("uncommit(0, 3) to 21 lines", x.uncommit(0, 3), -5);
        due("lines(0)", x.lines(0), 12);
        due("has(0, 3)", x.has(0, 3), 1);
        due("insert(0, 0, 6)", x.insert(0, 0, 6), 13);
        due("commit(0)", x.commit(0), 1);
        due("uncommit(0, 3) too long and not standing", x.uncommit(0, 3), -4);
    }

    private static void pulling() {
        promise = "promise 7";
        ChangeRooms x = new ChangeRooms();
        type(x, 0, 0, 1, 2, 3);
        x.commit(0);
        x.insert(0, 1, 4);
        x.commit(0);
        x.insert(0, 2, 5);
        x.commit(0);
        x.insert(0, 5, 6);
        x.commit(0);
        dueFile(x, 0, 1, 4, 5, 2, 3, 6);
        for (int far : FAR) {
            due("pull(" + far + ", 0, 9)", x.pull(far, 0, 9), -1);
            due("pull(0, " + far + ", 9)", x.pull(0, far, 9), -1);
        }
        due("pull(1, 0, 4)", x.pull(1, 0, 4), -2);
        due("pull(1, 0, -1)", x.pull(1, 0, -1), -2);
        due("pull(1, 2, 0)", x.pull(1, 2, 0), -3);
        due("pull(0, 1, 0) that the other room has not", x.pull(0, 1, 0), -3);
        due("pull(0, 0, 0)", x.pull(0, 0, 0), -4);
        due("pull(1, 0, 2) with 0 and 1", x.pull(1, 0, 2), 3);
        dueFile(x, 1, 1, 4, 5, 2, 3);
        dueSources(x, 1, 0, 1, 2, 0, 0);
        dueCopy(x, 1, 1, 4, 5, 2, 3);
        due("has(1, 0)", x.has(1, 0), 1);
        due("has(1, 1)", x.has(1, 1), 1);
        due("has(1, 2)", x.has(1, 2), 1);
        due("has(1, 3)", x.has(1, 3), 0);
        due("compare(0, 1)", x.compare(0, 1), 4);
        due("pull(1, 0, 1)", x.pull(1, 0, 1), -4);
        x.insert(1, 0, 9);
        due("pull(1, 0, 1) with another copy", x.pull(1, 0, 1), -4);
        due("pull(1, 0, 3) with another copy", x.pull(1, 0, 3), -5);
        x.delete(1, 0);
        x.delete(1, 4);
        x.insert(1, 4, 8);
        due("pull(1, 0, 3) with another last text", x.pull(1, 0, 3), -5);
        x.delete(1, 4);
        x.insert(1, 4, 3);
        x.delete(1, 0);
        x.insert(1, 0, 8);
        due("pull(1, 0, 3) with another first text", x.pull(1, 0, 3), -5);
        x.delete(1, 0);
        x.insert(1, 0, 1);
        due("pull(1, 0, 3)", x.pull(1, 0, 3), 1);
        due("compare(0, 1)", x.compare(0, 1), 1);
        due("pull(2, 1, 3) with 0 alone", x.pull(2, 1, 3), 2);
        dueFile(x, 2, 1, 2, 3, 6);
        due("pull(2, 0, 2)", x.pull(2, 0, 2), 2);
        due("compare(2, 0)", x.compare(2, 0), 1);
        due("changes()", x.changes(), 4);
    }

    private static void pullWhatDoesNotStand() {
        promise = "promise 7, the run before it";
        ChangeRooms x = twoRooms(1, 2, 3);
        x.insert(0, 1, 4);
        x.commit(0);
        x.insert(0, 4, 5);
        x.commit(0);
        x.delete(1, 1);
        due("commit(1)", x.commit(1), 1);
        due("pull(1, 0, 1) whose last edge is out", x.pull(1, 0, 1), -6);
        due("pull(0, 1, 3) whose edges are no neighbours", x.pull(0, 1, 3), -6);
        dueFile(x, 1, 1, 3);
        dueFile(x, 0, 1, 4, 2, 3, 5);
        dueCopy(x, 1, 1, 3);
        due("has(1, 1)", x.has(1, 1), 0);
        due("pull(1, 0, 2) at the end of the file", x.pull(1, 0, 2), 1);
        dueFile(x, 1, 1, 3, 5);
        // The ends of an emptied file are not the line that was there.
        ChangeRooms w = twoRooms(1);
        w.pull(2, 0, 0);
        w.delete(0, 0);
        due("commit(0)", w.commit(0), 1);
        w.insert(1, 0, 5);
        due("commit(1)", w.commit(1), 1);
        w.insert(2, 1, 6);
        due("commit(2)", w.commit(2), 1);
        due("pull(0, 1, 2) before a line that is out", w.pull(0, 1, 2), -6);
        due("pull(0, 2, 3) behind a line that is out", w.pull(0, 2, 3), -6);
        due("pull(1, 0, 1) of a line with another one before it", w.pull(1, 0, 1), -6);
        due("pull(2, 0, 1) of a line with another one behind it", w.pull(2, 0, 1), -6);
        due("pull(1, 2, 3)", w.pull(1, 2, 3), 1);
        dueFile(w, 1, 5, 1, 6);
        // Another line with the same text is another line.
        ChangeRooms y = new ChangeRooms();
        type(y, 0, 0, 1, 2);
        y.commit(0);
        type(y, 1, 0, 1, 2);
        y.commit(1);
        y.insert(0, 1, 3);
        y.commit(0);
        due("pull(1, 0, 2) into a file with the same texts", y.pull(1, 0, 2), -6);
        due("has(1, 0)", y.has(1, 0), 0);
        due("pull(2, 0, 2)", y.pull(2, 0, 2), 2);
        // The first of two goes, the second does not: nothing is left of the first.
        ChangeRooms z = twoRooms(1, 2, 3, 4);
        z.insert(0, 1, 5);
        z.commit(0);
        retype(z, 0, 1, 5, 6, 4);
        due("commit(0)", z.commit(0), 1);
        dueNeeds(z, 2, 0, 1);
        z.insert(1, 3, 7);
        z.commit(1);
        due("pull(1, 0, 2)", z.pull(1, 0, 2), -6);
        dueFile(z, 1, 1, 2, 3, 7, 4);
        due("has(1, 1)", z.has(1, 1), 0);
        due("pull(1, 0, 1)", z.pull(1, 0, 1), 1);
        dueFile(z, 1, 1, 5, 2, 3, 7, 4);
    }

    private static void pullTooLong() {
        promise = "promise 7, the length";
        ChangeRooms x = twoRooms(1, 2);
        retype(x, 0, 3, 3, 3, 3, 3, 3, 3, 3, 3, 3, 1, 2);
        due("commit(0)", x.commit(0), 1);
        retype(x, 0, 1, 2);
        due("commit(0)", x.commit(0), 1);
        type(x, 1, 2, many(9, 4));
        due("commit(1)", x.commit(1), 1);
        due("pull(1, 0, 1) to 21 lines", x.pull(1, 0, 1), -7);
        due("pull(1, 0, 2) over 21 lines to 11", x.pull(1, 0, 2), -7);
        due("lines(1)", x.lines(1), 11);
        due("has(1, 1)", x.has(1, 1), 0);
        x.delete(1, 10);
        due("commit(1)", x.commit(1), 1);
        due("canPull(1, 0, 1)", x.canPull(1, 0, 1), 1);
        due("pull(1, 0, 1) to 20 lines", x.pull(1, 0, 1), 1);
        dueFile(x, 1, 3, 3, 3, 3, 3, 3, 3, 3, 3, 3, 1, 2, 4, 4, 4, 4, 4, 4, 4, 4);
        due("pull(1, 0, 2)", x.pull(1, 0, 2), 1);
        dueFile(x, 1, 1, 2, 4, 4, 4, 4, 4, 4, 4, 4);
    }

    private static void whicheverComesFirst() {
        promise = "promise 7, -6 or -7";
        // Change 1 puts ten lines before 1, change 2 needs it and the neighbours 1 2.
        ChangeRooms x = twoRooms(1, 2);
        retype(x, 0, 3, 3, 3, 3, 3, 3, 3, 3, 3, 3, 1, 2);
        due("commit(0)", x.commit(0), 1);
        retype(x, 0, 3, 3, 3, 3, 3, 3, 3, 3, 3, 2);
        due("commit(0)", x.commit(0), 1);
        dueNeeds(x, 2, 0, 1);
        retype(x, 1, 1, 4, 4, 4, 4, 4, 4, 4, 4, 4, 2);
        due("commit(1)", x.commit(1), 1);
        due("pull(1, 0, 2) too long before it does not stand", x.pull(1, 0, 2), -7);
        x.delete(1, 9);
        due("commit(1)", x.commit(1), 1);
        due("pull(1, 0, 2) not standing when its turn comes", x.pull(1, 0, 2), -6);
        due("lines(1)", x.lines(1), 10);
        due("has(1, 1)", x.has(1, 1), 0);
        // Change 1 does not stand; it would be too long as well.
        ChangeRooms y = twoRooms(1, 2);
        retype(y, 0, 1, 3, 3, 3, 3, 3, 3, 3, 3, 3, 3, 2);
        due("commit(0)", y.commit(0), 1);
        retype(y, 1, 1, 4, 4, 4, 4, 4, 4, 4, 4, 4, 4, 2);
        due("commit(1)", y.commit(1), 1);
        due("pull(1, 0, 1)", y.pull(1, 0, 1), -6);
    }

    private static void countingChanges() {
        promise = "promise 8";
        ChangeRooms x = twoRooms(1, 2, 3);
        due("changes()", x.changes(), 1);
        retype(x, 1, 4, 1, 2, 3, 5);
        due("changes() before the commit", x.changes(), 1);
        due("commit(1)", x.commit(1), 2);
        due("changes()", x.changes(), 3);
        due("pull(0, 1, 1)", x.pull(0, 1, 1), 1);
        due("changes() after a pull", x.changes(), 3);
        x.uncommit(0, 1);
        x.uncommit(1, 1);
        due("changes() with one that no room has", x.changes(), 3);
        type(x, 2, 0, 1);
        x.commit(2);
        due("changes()", x.changes(), 4);
        due("has(2, 3)", x.has(2, 3), 1);
    }

    private static void fileQuestions() {
        promise = "promises 9 to 12";
        ChangeRooms x = twoRooms(1, 2, 3);
        x.insert(1, 1, 7);
        due("lines(1) before the commit", x.lines(1), 3);
        due("line(1, 1) before the commit", x.line(1, 1), 2);
        due("text(1, 1) before the commit", x.text(1, 1), 7);
        x.commit(1);
        dueFile(x, 1, 1, 7, 2, 3);
        dueSources(x, 1, 0, 1, 0, 0);
        dueCopy(x, 1, 1, 7, 2, 3);
        dueFile(x, 0, 1, 2, 3);
        dueSources(x, 0, 0, 0, 0);
        dueFile(x, 2);
        for (int far : FAR) {
            due("lines(" + far + ")", x.lines(far), -1);
            due("line(" + far + ", 9)", x.line(far, 9), -1);
            due("source(" + far + ", 9)", x.source(far, 9), -1);
            due("text(" + far + ", 9)", x.text(far, 9), -1);
            if (far != 3) {
                due("line(1, " + far + ")", x.line(1, far), -2);
                due("source(1, " + far + ")", x.source(1, far), -2);
                due("text(1, " + far + ")", x.text(1, far), -2);
            }
        }
        ChangeRooms y = new ChangeRooms();
        type(y, 2, 0, many(20, 9));
        y.commit(2);
        due("lines(2)", y.lines(2), 20);
        due("line(2, 19)", y.line(2, 19), 9);
        due("source(2, 19)", y.source(2, 19), 0);
        due("text(2, 19)", y.text(2, 19), 9);
        due("line(2, 20)", y.line(2, 20), -2);
        due("source(2, 20)", y.source(2, 20), -2);
        due("text(2, 20)", y.text(2, 20), -2);
        for (int i = 0; i < 20; i++) {
            y.delete(2, 0);
        }
        due("text(2, 0)", y.text(2, 0), -2);
        due("line(2, 19)", y.line(2, 19), 9);
        y.commit(2);
        due("line(2, 0)", y.line(2, 0), -2);
        due("source(2, 0)", y.source(2, 0), -2);
    }

    private static void having() {
        promise = "promise 13";
        ChangeRooms x = twoRooms(1, 2);
        x.insert(0, 1, 3);
        x.commit(0);
        due("has(0, 0)", x.has(0, 0), 1);
        due("has(0, 1)", x.has(0, 1), 1);
        due("has(1, 0)", x.has(1, 0), 1);
        due("has(1, 1)", x.has(1, 1), 0);
        due("has(2, 0)", x.has(2, 0), 0);
        due("has(0, 2)", x.has(0, 2), -2);
        due("has(0, 15)", x.has(0, 15), -2);
        for (int far : FAR) {
            due("has(" + far + ", 0)", x.has(far, 0), -1);
            due("has(" + far + ", 9)", x.has(far, 9), -1);
            due("has(0, " + far + ")", x.has(0, far), -2);
        }
        x.uncommit(0, 1);
        due("has(0, 1)", x.has(0, 1), 0);
        x.uncommit(1, 0);
        due("has(1, 0)", x.has(1, 0), 0);
        due("has(0, 0)", x.has(0, 0), 1);
    }

    private static void needing() {
        promise = "promise 14";
        ChangeRooms x = new ChangeRooms();
        type(x, 0, 0, 1, 2);
        x.commit(0);
        dueNeeds(x, 0);
        x.insert(0, 1, 5);
        x.commit(0);
        dueNeeds(x, 1, 0);
        dueNeeds(x, 0);
        x.delete(0, 1);
        x.commit(0);
        dueNeeds(x, 2, 0, 1);
        // 1 2 are neighbours after change 0 and after change 2: the greatest number counts.
        x.insert(0, 1, 6);
        x.commit(0);
        dueNeeds(x, 3, 0, 1, 2);
        // 1 with the beginning: after change 0 alone.
        x.insert(0, 0, 7);
        x.commit(0);
        dueNeeds(x, 4, 0);
        // 2 with the end: after change 0 alone.
        x.insert(0, 4, 8);
        x.commit(0);
        dueNeeds(x, 5, 0);
        // The run 6 2 8: change 3 put 6, change 5 put 8.
        x.delete(0, 3);
        x.commit(0);
        dueNeeds(x, 6, 0, 1, 2, 3, 5);
        // What the room no longer has when a change is recorded does not count.
        due("uncommit(0, 6)", x.uncommit(0, 6), 5);
        due("uncommit(0, 3)", x.uncommit(0, 3), 4);
        due("uncommit(0, 2)", x.uncommit(0, 2), 5);
        due("uncommit(0, 1)", x.uncommit(0, 1), 4);
        x.revert(0);
        x.insert(0, 2, 9);
        due("commit(0)", x.commit(0), 1);
        dueFile(x, 0, 7, 1, 9, 2, 8);
        dueNeeds(x, 7, 0);
        // What other rooms have does not count; a file made anew needs nothing.
        type(x, 1, 0, 1, 2);
        x.commit(1);
        dueNeeds(x, 8);
        // The empty file that a change left behind is that change's.
        retype(x, 1);
        x.commit(1);
        dueNeeds(x, 9, 8);
        type(x, 1, 0, 3);
        x.commit(1);
        dueNeeds(x, 10, 8, 9);
        type(x, 2, 0, 3);
        x.commit(2);
        dueNeeds(x, 11);
        due("needs(0, 12)", x.needs(0, 12), -2);
        due("needs(12, 0)", x.needs(12, 0), -2);
        for (int far : new int[] {-1, 12, 16, 31, 32, 33, Integer.MIN_VALUE, Integer.MAX_VALUE}) {
            due("needs(0, " + far + ")", x.needs(0, far), -2);
            due("needs(" + far + ", 0)", x.needs(far, 0), -2);
            due("needs(" + far + ", " + far + ")", x.needs(far, far), -2);
        }
    }

    private static void needsBothNeighbours() {
        promise = "promise 14, both neighbours";
        ChangeRooms x = twoRooms(1, 2);
        x.insert(0, 1, 5);
        x.commit(0);
        x.insert(1, 1, 6);
        x.commit(1);
        x.delete(1, 1);
        x.commit(1);
        due("pull(1, 0, 1)", x.pull(1, 0, 1), 1);
        // 1 5 are neighbours after change 1 alone; after changes 2 and 3, 1 has other neighbours.
        x.insert(1, 1, 7);
        x.commit(1);
        dueNeeds(x, 4, 0, 1);
        // 5 2 likewise.
        x.insert(1, 3, 8);
        x.commit(1);
        dueNeeds(x, 5, 0, 1);
        dueFile(x, 1, 1, 7, 5, 8, 2);
    }

    private static void needsOfOneCommit() {
        promise = "promise 14, changes of one commit";
        ChangeRooms x = new ChangeRooms();
        type(x, 0, 0, 1, 2, 3);
        x.commit(0);
        retype(x, 0, 4, 1, 5, 2, 6, 3, 7);
        due("commit(0)", x.commit(0), 4);
        for (int c = 1; c <= 4; c++) {
            dueNeeds(x, c, 0);
        }
        // Each can be pulled alone, in any order.
        due("pull(1, 0, 3)", x.pull(1, 0, 3), 2);
        dueFile(x, 1, 1, 2, 6, 3);
        due("pull(1, 0, 1)", x.pull(1, 0, 1), 1);
        due("pull(1, 0, 4)", x.pull(1, 0, 4), 1);
        due("pull(1, 0, 2)", x.pull(1, 0, 2), 1);
        due("compare(0, 1)", x.compare(0, 1), 1);
        // And taken back in any order.
        due("uncommit(1, 2)", x.uncommit(1, 2), 6);
        due("uncommit(1, 4)", x.uncommit(1, 4), 5);
        due("uncommit(1, 1)", x.uncommit(1, 1), 4);
        dueFile(x, 1, 1, 2, 6, 3);
    }

    private static void weighing() {
        promise = "promise 15";
        ChangeRooms x = new ChangeRooms();
        due("weight(0)", x.weight(0), -2);
        type(x, 0, 0, many(20, 1));
        x.commit(0);
        due("weight(0)", x.weight(0), 20);
        retype(x, 0, many(20, 2));
        x.commit(0);
        due("weight(1)", x.weight(1), 40);
        x.delete(0, 3);
        x.commit(0);
        due("weight(2)", x.weight(2), 1);
        x.uncommit(0, 2);
        due("weight(2) that no room has", x.weight(2), 1);
        due("weight(3)", x.weight(3), -2);
        for (int far : FAR) {
            due("weight(" + far + ")", x.weight(far), -2);
        }
    }

    private static void canPulling() {
        promise = "promise 16";
        ChangeRooms x = twoRooms(1, 2);
        x.insert(0, 1, 3);
        x.commit(0);
        for (int far : FAR) {
            due("canPull(" + far + ", 0, 1)", x.canPull(far, 0, 1), 0);
            due("canPull(1, " + far + ", 1)", x.canPull(1, far, 1), 0);
            due("canPull(1, 0, " + far + ")", x.canPull(1, 0, far), 0);
        }
        due("canPull(1, 0, 2)", x.canPull(1, 0, 2), 0);
        due("canPull(1, 2, 1)", x.canPull(1, 2, 1), 0);
        due("canPull(1, 0, 0)", x.canPull(1, 0, 0), 0);
        due("canPull(0, 0, 0)", x.canPull(0, 0, 0), 0);
        due("canPull(1, 0, 1)", x.canPull(1, 0, 1), 1);
        due("canPull(2, 0, 1)", x.canPull(2, 0, 1), 1);
        dueFile(x, 1, 1, 2);
        dueCopy(x, 1, 1, 2);
        dueFile(x, 2);
        due("has(1, 1)", x.has(1, 1), 0);
        x.insert(1, 2, 4);
        due("canPull(1, 0, 1) with another copy", x.canPull(1, 0, 1), 0);
        x.commit(1);
        due("canPull(1, 0, 1)", x.canPull(1, 0, 1), 1);
        x.insert(1, 1, 4);
        x.commit(1);
        due("canPull(1, 0, 1) not standing", x.canPull(1, 0, 1), 0);
        ChangeRooms y = twoRooms(1, 2);
        type(y, 0, 2, many(18, 3));
        y.commit(0);
        y.insert(1, 0, 4);
        y.commit(1);
        due("canPull(1, 0, 1) too long", y.canPull(1, 0, 1), 0);
        due("pull(1, 0, 1) too long", y.pull(1, 0, 1), -7);
        due("canPull(2, 0, 1) to 20 lines", y.canPull(2, 0, 1), 1);
        due("pull(2, 0, 1) to 20 lines", y.pull(2, 0, 1), 2);
    }

    private static void comparing() {
        promise = "promise 17";
        ChangeRooms x = twoRooms(1, 2);
        for (int far : FAR) {
            due("compare(" + far + ", 0)", x.compare(far, 0), -1);
            due("compare(0, " + far + ")", x.compare(0, far), -1);
        }
        due("compare(0, 1)", x.compare(0, 1), 1);
        due("compare(1, 0)", x.compare(1, 0), 1);
        due("compare(2, 2)", x.compare(2, 2), 1);
        due("compare(0, 2)", x.compare(0, 2), 4);
        // The same texts in other lines are other files.
        type(x, 2, 0, 1, 2);
        x.commit(2);
        due("compare(0, 2)", x.compare(0, 2), 4);
        // The copies do not count.
        x.insert(0, 1, 3);
        due("compare(0, 1)", x.compare(0, 1), 1);
        x.commit(0);
        due("compare(0, 1)", x.compare(0, 1), 4);
        x.delete(0, 1);
        x.commit(0);
        due("compare(0, 1) with the same lines by other changes", x.compare(0, 1), 3);
        due("compare(1, 0) with the same lines by other changes", x.compare(1, 0), 3);
        due("pull(1, 0, 3)", x.pull(1, 0, 3), 2);
        due("compare(0, 1)", x.compare(0, 1), 1);
        retype(x, 2);
        x.commit(2);
        ChangeRooms y = new ChangeRooms();
        type(y, 0, 0, 1);
        y.commit(0);
        y.delete(0, 0);
        y.commit(0);
        due("compare(0, 1) of empty files", y.compare(0, 1), 3);
        due("compare(1, 2) of empty files", y.compare(1, 2), 1);
        // Files of which one is the beginning of the other.
        ChangeRooms z = twoRooms(1, 2);
        type(z, 0, 2, 3);
        z.commit(0);
        due("compare(0, 1)", z.compare(0, 1), 4);
        due("compare(1, 0)", z.compare(1, 0), 4);
        // Files of one length that differ in one line.
        for (int place = 0; place < 3; place++) {
            ChangeRooms w = twoRooms(1, 2, 3);
            w.delete(0, place);
            w.insert(0, place, 4);
            due("commit(0)", w.commit(0), 1);
            due("compare(0, 1) with another line " + place, w.compare(0, 1), 4);
        }
    }

    private static void unrecording() {
        promise = "promise 18";
        ChangeRooms x = new ChangeRooms();
        type(x, 0, 0, 1, 2, 3);
        due("unrecorded(0)", x.unrecorded(0), 3);
        due("unrecorded(1)", x.unrecorded(1), 0);
        x.commit(0);
        due("unrecorded(0)", x.unrecorded(0), 0);
        retype(x, 0);
        due("unrecorded(0)", x.unrecorded(0), 3);
        type(x, 0, 0, 3, 1, 2);
        due("unrecorded(0)", x.unrecorded(0), 2);
        retype(x, 0, 4, 5, 6, 7);
        due("unrecorded(0)", x.unrecorded(0), 7);
        due("unrecorded(0) asked again", x.unrecorded(0), 7);
        dueFile(x, 0, 1, 2, 3);
        dueCopy(x, 0, 4, 5, 6, 7);
        x.revert(0);
        due("unrecorded(0)", x.unrecorded(0), 0);
        x.uncommit(0, 0);
        due("unrecorded(0)", x.unrecorded(0), 3);
        for (int far : FAR) {
            due("unrecorded(" + far + ")", x.unrecorded(far), -1);
        }
        ChangeRooms y = new ChangeRooms();
        type(y, 0, 0, many(20, 1));
        y.commit(0);
        retype(y, 0, many(20, 2));
        due("unrecorded(0)", y.unrecorded(0), 40);
        // The counts do not depend on whether a commit would be refused.
        type(y, 1, 0, many(20, 3));
        y.commit(1);
        type(y, 2, 0, many(20, 3));
        y.commit(2);
        due("commit(0)", y.commit(0), -4);
        due("unrecorded(0)", y.unrecorded(0), 40);
    }

    public static void main(String[] args) {
        newObject();
        inserting();
        deleting();
        reverting();
        committing();
        firstOfTheGreatestMatchings();
        commitLimits();
        tooManyChangesAndLines();
        uncommitting();
        uncommitWhatDoesNotStand();
        uncommitTooLong();
        pulling();
        pullWhatDoesNotStand();
        pullTooLong();
        whicheverComesFirst();
        countingChanges();
        fileQuestions();
        having();
        needing();
        needsBothNeighbours();
        needsOfOneCommit();
        weighing();
        canPulling();
        comparing();
        unrecording();
        System.out.println(wrong == 0 ? "all answers are as due" : wrong + " answers are not as due");
        if (wrong != 0) {
            System.exit(1);
        }
    }
}
