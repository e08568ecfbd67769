/** Version control by changes: three rooms, each with a file of lines and an edited copy of texts. */
public final class ChangeRooms {
    private static final int ROOMS = 3;
    private static final int MOST_LINES = 20;
    private static final int MOST_TEXT = 9;
    private static final int MOST_CHANGES = 16;
    private static final int MOST_PUT = 60;

    private static final int NO_ROOM = -1;
    private static final int NO_CHANGE = -2;
    private static final int NO_PLACE = -2;
    private static final int NOWHERE = -1;

    // Files and runs hold the beginning and the end as members like lines,
    // so that an edge is found and compared in the same way whatever it is.
    private static final int BEGINNING = 60;
    private static final int END = 61;
    private static final int ENDS = 2;
    private static final int ROW = 22;

    private static final int FILE_CELLS = ROOMS * ROW;
    private static final int COPY_CELLS = ROOMS * MOST_LINES;
    private static final int RUNS = 2 * MOST_CHANGES;
    private static final int RUN_CELLS = RUNS * ROW;
    private static final int COMMON_CELLS = ROW * ROW;

    private final int[] fileCells = new int[FILE_CELLS];
    private final int[] lineCount = new int[ROOMS];
    private final int[] copyCells = new int[COPY_CELLS];
    private final int[] textCount = new int[ROOMS];
    private final int[] roomChanges = new int[ROOMS];

    private final int[] textOfLine = new int[MOST_PUT];
    private final int[] sourceOfLine = new int[MOST_PUT];
    private int putCount;

    // Change c has two runs: number 2c is the run before it, 2c + 1 the run after it.
    private final int[] runCells = new int[RUN_CELLS];
    private final int[] runLength = new int[RUNS];
    private final int[] neededChanges = new int[MOST_CHANGES];
    private int changeCount;

    // The trial is a file in the making: a room gets it only when nothing is refused any more.
    private final int[] trial = new int[ROW];
    private int trialLength;

    // Of the matching: pair 0 joins the two beginnings and pair pairCount + 1 the two ends,
    // so that every gap lies between two pairs. Positions count from 1, as in a file's row.
    private final int[] common = new int[COMMON_CELLS];
    private final int[] pairLine = new int[ROW];
    private final int[] pairText = new int[ROW];
    private int pairCount;

    public ChangeRooms() {
        for (int room = 0; room < ROOMS; room++) {
            fileCells[room * ROW] = BEGINNING;
            fileCells[room * ROW + 1] = END;
        }
    }

    public int insert(int room, int place, int text) {
        if (!isRoom(room)) {
            return NO_ROOM;
        }
        int count = textCount[room];
        if (place < 0 || place > count) {
            return NO_PLACE;
        }
        if (text < 0 || text > MOST_TEXT) {
            return -3;
        }
        if (count >= MOST_LINES) {
            return -4;
        }
        int start = room * MOST_LINES;
        for (int i = count; i > place; i--) {
            copyCells[start + i] = copyCells[start + i - 1];
        }
        copyCells[start + place] = text;
        textCount[room] = count + 1;
        return count + 1;
    }

    public int delete(int room, int place) {
        if (!isRoom(room)) {
            return NO_ROOM;
        }
        int count = textCount[room];
        if (place < 0 || place >= count) {
            return NO_PLACE;
        }
        int start = room * MOST_LINES;
        int taken = copyCells[start + place];
        for (int i = place; i < count - 1; i++) {
            copyCells[start + i] = copyCells[start + i + 1];
        }
        textCount[room] = count - 1;
        return taken;
    }

    public int revert(int room) {
        if (!isRoom(room)) {
            return NO_ROOM;
        }
        copyFromFile(room);
        return textCount[room];
    }

    public int commit(int room) {
        if (!isRoom(room)) {
            return NO_ROOM;
        }
        matchTexts(room);
        int gaps = countGaps();
        if (changeCount + gaps > MOST_CHANGES) {
            return -3;
        }
        if (putCount + textCount[room] - pairCount > MOST_PUT) {
            return -4;
        }
        recordGaps(room);
        return gaps;
    }

    public int uncommit(int room, int change) {
        if (!isRoom(room)) {
            return NO_ROOM;
        }
        if (!isChange(change)) {
            return NO_CHANGE;
        }
        if (!roomHas(room, change)) {
            return -3;
        }
        int before = runBefore(change);
        int after = runAfter(change);
        startTrial(room);
        int at = findInTrial(after);
        if (at == NOWHERE || roomNeeds(room, change)) {
            return -4;
        }
        if (!replaceInTrial(at, after, before)) {
            return -5;
        }
        keepTrial(room);
        roomChanges[room] &= ~(1 << change);
        return lineCount[room];
    }

    public int pull(int room, int from, int change) {
        int made = tryPull(room, from, change);
        if (made < 0) {
            return made;
        }
        keepTrial(room);
        copyFromFile(room);
        roomChanges[room] |= neededChanges[change] | (1 << change);
        return made;
    }

    public int changes() {
        return changeCount;
    }

    public int lines(int room) {
        if (!isRoom(room)) {
            return NO_ROOM;
        }
        return lineCount[room];
    }

    public int line(int room, int place) {
        if (!isRoom(room)) {
            return NO_ROOM;
        }
        if (place < 0 || place >= lineCount[room]) {
            return NO_PLACE;
        }
        return textOfLine[lineAt(room, place)];
    }

    public int source(int room, int place) {
        if (!isRoom(room)) {
            return NO_ROOM;
        }
        if (place < 0 || place >= lineCount[room]) {
            return NO_PLACE;
        }
        return sourceOfLine[lineAt(room, place)];
    }

    public int text(int room, int place) {
        if (!isRoom(room)) {
            return NO_ROOM;
        }
        if (place < 0 || place >= textCount[room]) {
            return NO_PLACE;
        }
        return copyCells[room * MOST_LINES + place];
    }

    public int has(int room, int change) {
        if (!isRoom(room)) {
            return NO_ROOM;
        }
        if (!isChange(change)) {
            return NO_CHANGE;
        }
        return roomHas(room, change) ? 1 : 0;
    }

    public int needs(int change, int other) {
        if (!isChange(change) || !isChange(other)) {
            return NO_CHANGE;
        }
        return isIn(neededChanges[change], other) ? 1 : 0;
    }

    public int weight(int change) {
        if (!isChange(change)) {
            return NO_CHANGE;
        }
        return runLength[runBefore(change)] - ENDS + runLength[runAfter(change)] - ENDS;
    }

    public int canPull(int room, int from, int change) {
        return tryPull(room, from, change) < 0 ? 0 : 1;
    }

    public int compare(int room, int other) {
        if (!isRoom(room) || !isRoom(other)) {
            return NO_ROOM;
        }
        boolean sameFiles = areSameFiles(room, other);
        if (roomChanges[room] == roomChanges[other]) {
            return sameFiles ? 1 : 2;
        }
        return sameFiles ? 3 : 4;
    }

    public int unrecorded(int room) {
        if (!isRoom(room)) {
            return NO_ROOM;
        }
        matchTexts(room);
        return lineCount[room] + textCount[room] - 2 * pairCount;
    }

    private static boolean isRoom(int room) {
        return room >= 0 && room < ROOMS;
    }

    private boolean isChange(int change) {
        return change >= 0 && change < changeCount;
    }

    private static boolean isIn(int changeSet, int change) {
        return ((changeSet >> change) & 1) == 1;
    }

    private boolean roomHas(int room, int change) {
        return isIn(roomChanges[room], change);
    }

    private boolean roomNeeds(int room, int change) {
        for (int c = 0; c < changeCount; c++) {
            if (roomHas(room, c) && isIn(neededChanges[c], change)) {
                return true;
            }
        }
        return false;
    }

    private static int runBefore(int change) {
        return 2 * change;
    }

    private static int runAfter(int change) {
        return 2 * change + 1;
    }

    private int lineAt(int room, int place) {
        return fileCells[room * ROW + 1 + place];
    }

    private boolean areSameFiles(int room, int other) {
        if (lineCount[room] != lineCount[other]) {
            return false;
        }
        for (int i = 1; i <= lineCount[room]; i++) {
            if (fileCells[room * ROW + i] != fileCells[other * ROW + i]) {
                return false;
            }
        }
        return true;
    }

    private void copyFromFile(int room) {
        int count = lineCount[room];
        for (int i = 0; i < count; i++) {
            int line = fileCells[room * ROW + 1 + i];
            copyCells[room * MOST_LINES + i] = textOfLine[line];
        }
        textCount[room] = count;
    }

    private boolean isCopyAsFile(int room) {
        if (lineCount[room] != textCount[room]) {
            return false;
        }
        for (int i = 1; i <= lineCount[room]; i++) {
            if (!isSameText(room, i, i)) {
                return false;
            }
        }
        return true;
    }

    /** Both positions count from 1, as in a file's row. */
    private boolean isSameText(int room, int linePosition, int textPosition) {
        int line = fileCells[room * ROW + linePosition];
        return textOfLine[line] == copyCells[room * MOST_LINES + textPosition - 1];
    }

    private void matchTexts(int room) {
        measureCommon(room);
        pairCount = 0;
        pairLine[0] = 0;
        pairText[0] = 0;
        for (int i = 1; i <= lineCount[room]; i++) {
            int partner = firstPartner(room, i);
            if (partner != NOWHERE) {
                pairCount++;
                pairLine[pairCount] = i;
                pairText[pairCount] = partner;
            }
        }
        pairLine[pairCount + 1] = lineCount[room] + 1;
        pairText[pairCount + 1] = textCount[room] + 1;
    }

    /** For each two positions: the most pairs that the lines and texts from there on can have. */
    private void measureCommon(int room) {
        int lines = lineCount[room];
        int texts = textCount[room];
        for (int i = lines + 1; i >= 1; i--) {
            for (int j = texts + 1; j >= 1; j--) {
                int cell = i * ROW + j;
                if (i > lines || j > texts) {
                    common[cell] = 0;
                } else if (isSameText(room, i, j)) {
                    common[cell] = common[cell + ROW + 1] + 1;
                } else {
                    common[cell] = greater(common[cell + ROW], common[cell + 1]);
                }
            }
        }
    }

    private static int greater(int a, int b) {
        return a > b ? a : b;
    }

    /** The first text behind the last pair that the line can have without costing a pair later. */
    private int firstPartner(int room, int linePosition) {
        int first = pairText[pairCount] + 1;
        int most = common[linePosition * ROW + first];
        for (int j = first; j <= textCount[room]; j++) {
            boolean keepsMost = common[(linePosition + 1) * ROW + j + 1] + 1 == most;
            if (keepsMost && isSameText(room, linePosition, j)) {
                return j;
            }
        }
        return NOWHERE;
    }

    private boolean isGap(int pair) {
        return pairLine[pair + 1] - pairLine[pair] > 1 || pairText[pair + 1] - pairText[pair] > 1;
    }

    private int countGaps() {
        int gaps = 0;
        for (int pair = 0; pair <= pairCount; pair++) {
            if (isGap(pair)) {
                gaps++;
            }
        }
        return gaps;
    }

    private void recordGaps(int room) {
        int had = roomChanges[room];
        int firstNew = changeCount;
        // All edges must be in place first: a gap's run reaches to the pair behind it.
        for (int pair = 0; pair <= pairCount + 1; pair++) {
            trial[pairText[pair]] = fileCells[room * ROW + pairLine[pair]];
        }
        trialLength = textCount[room] + ENDS;
        for (int pair = 0; pair <= pairCount; pair++) {
            if (isGap(pair)) {
                recordGap(room, pair);
            }
        }
        for (int c = firstNew; c < changeCount; c++) {
            neededChanges[c] = findNeeded(c, had);
        }
        keepTrial(room);
    }

    private void recordGap(int room, int pair) {
        int change = changeCount;
        int before = runBefore(change);
        int after = runAfter(change);
        for (int j = pairText[pair] + 1; j < pairText[pair + 1]; j++) {
            textOfLine[putCount] = copyCells[room * MOST_LINES + j - 1];
            sourceOfLine[putCount] = change;
            trial[j] = putCount;
            putCount++;
        }
        for (int i = pairLine[pair]; i <= pairLine[pair + 1]; i++) {
            addToRun(before, fileCells[room * ROW + i]);
        }
        for (int j = pairText[pair]; j <= pairText[pair + 1]; j++) {
            addToRun(after, trial[j]);
        }
        roomChanges[room] |= 1 << change;
        changeCount++;
    }

    private void addToRun(int run, int member) {
        runCells[run * ROW + runLength[run]] = member;
        runLength[run]++;
    }

    private int findNeeded(int change, int had) {
        int run = runBefore(change);
        int needed = 0;
        for (int i = 0; i < runLength[run] - 1; i++) {
            int joiner = lastJoiner(runCells[run * ROW + i], runCells[run * ROW + i + 1], had);
            if (joiner != NOWHERE) {
                needed |= neededChanges[joiner] | (1 << joiner);
            }
        }
        return needed;
    }

    /** The change with the greatest number, of a set, after which the two are neighbours. */
    private int lastJoiner(int first, int second, int changeSet) {
        for (int c = changeCount - 1; c >= 0; c--) {
            int after = runAfter(c);
            if (isIn(changeSet, c) && areNeighbours(first, second, after)) {
                return c;
            }
        }
        return NOWHERE;
    }

    private boolean areNeighbours(int first, int second, int run) {
        for (int i = run * ROW; i < run * ROW + runLength[run] - 1; i++) {
            if (runCells[i] == first && runCells[i + 1] == second) {
                return true;
            }
        }
        return false;
    }

    /** Makes the changes in the trial alone; answers how many, or why the pull is refused. */
    private int tryPull(int room, int from, int change) {
        if (!isRoom(room) || !isRoom(from)) {
            return NO_ROOM;
        }
        if (!isChange(change)) {
            return NO_CHANGE;
        }
        if (!roomHas(from, change)) {
            return -3;
        }
        if (roomHas(room, change)) {
            return -4;
        }
        if (!isCopyAsFile(room)) {
            return -5;
        }
        startTrial(room);
        int wanted = (neededChanges[change] | (1 << change)) & ~roomChanges[room];
        return makeInTrial(wanted);
    }

    private int makeInTrial(int wanted) {
        int made = 0;
        for (int c = 0; c < changeCount; c++) {
            if (isIn(wanted, c)) {
                int before = runBefore(c);
                int after = runAfter(c);
                int at = findInTrial(before);
                if (at == NOWHERE) {
                    return -6;
                }
                if (!replaceInTrial(at, before, after)) {
                    return -7;
                }
                made++;
            }
        }
        return made;
    }

    private void startTrial(int room) {
        trialLength = lineCount[room] + ENDS;
        for (int i = 0; i < trialLength; i++) {
            trial[i] = fileCells[room * ROW + i];
        }
    }

    private void keepTrial(int room) {
        lineCount[room] = trialLength - ENDS;
        for (int i = 0; i < trialLength; i++) {
            fileCells[room * ROW + i] = trial[i];
        }
    }

    private int findInTrial(int run) {
        for (int at = 0; at + runLength[run] <= trialLength; at++) {
            if (standsAt(at, run)) {
                return at;
            }
        }
        return NOWHERE;
    }

    private boolean standsAt(int at, int run) {
        for (int i = 0; i < runLength[run]; i++) {
            if (trial[at + i] != runCells[run * ROW + i]) {
                return false;
            }
        }
        return true;
    }

    /** Puts one run in the place of another; answers false, and does nothing, if that is too long. */
    private boolean replaceInTrial(int at, int oldRun, int newRun) {
        int growth = runLength[newRun] - runLength[oldRun];
        if (trialLength + growth > ROW) {
            return false;
        }
        moveTail(at + runLength[oldRun], growth);
        for (int i = 0; i < runLength[newRun]; i++) {
            trial[at + i] = runCells[newRun * ROW + i];
        }
        return true;
    }

    private void moveTail(int start, int growth) {
        // The order of the moves matters: no cell may be written before it has been read.
        if (growth > 0) {
            for (int i = trialLength - 1; i >= start; i--) {
                trial[i + growth] = trial[i];
            }
        } else {
            for (int i = start; i < trialLength; i++) {
                trial[i + growth] = trial[i];
            }
        }
        trialLength += growth;
    }
}
