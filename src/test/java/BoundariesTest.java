import java.lang.reflect.Field;
import java.util.ArrayList;
import java.util.Arrays;
import java.util.List;

// For each sentence of the document that names a boundary case a test of its own, in the document's
// order. A refused call is also held to "A refused call changes nothing", wherever it is made.
public final class BoundariesTest {
    private static final int MOST_CALLS = 512;
    private static final int CALLS_OF_A_LOOK = 160;
    private static final int[] NO_ROOMS = {-1, 3, Integer.MIN_VALUE, Integer.MAX_VALUE};

    private static int wrong = 0;

    /** A run of calls on one object, told as they are written in Java. */
    private static final class Run {
        private final String sentence;
        private final List<String> made = new ArrayList<>();
        private final ChangeRooms x = new ChangeRooms();

        Run(String sentence) {
            this.sentence = sentence;
        }

        private void hold(String call, String got, String want) {
            if (!got.equals(want)) {
                wrong++;
                System.out.println("\"" + sentence + "\": " + call + " answered " + got + ", due is " + want
                        + ", after " + made);
            }
        }

        /** The document promises nothing about an object after its last call. */
        private void spare(int calls) {
            if (made.size() + calls > MOST_CALLS) {
                throw new IllegalStateException("too many calls for: " + sentence);
            }
        }

        private int make(String call) {
            made.add(call);
            spare(0);
            return answer(x, call);
        }

        Run due(String call, int want) {
            int got = make(call);
            hold(call, "" + got, "" + want);
            return this;
        }

        /** The answer is due, and an object on which the call was made is as one on which it was not. */
        Run refused(String call, int want) {
            spare(1 + CALLS_OF_A_LOOK);
            List<String> withCall = new ArrayList<>(made);
            withCall.add(call);
            boolean same = look(withCall).equals(look(made));
            hold("what there is after " + call, same ? "as before it" : "in another way", "as before it");
            return due(call, want);
        }

        Run copy(int room, int... texts) {
            while (make("delete(" + room + ", 0)") != -2) {
                continue;
            }
            for (int i = 0; i < texts.length; i++) {
                due("insert(" + room + ", " + i + ", " + texts[i] + ")", i + 1);
            }
            return this;
        }

        Run committed(int room, int... texts) {
            return copy(room, texts).due("commit(" + room + ")", 1);
        }

        /** The answers to one question about the places 0, 1, .., and behind the last of them. */
        Run row(String question, int room, int... want) {
            for (int i = 0; i < want.length; i++) {
                due(question + "(" + room + ", " + i + ")", want[i]);
            }
            return due(question + "(" + room + ", " + want.length + ")", -2);
        }

        Run file(int room, int... want) {
            return due("lines(" + room + ")", want.length).row("line", room, want);
        }

        Run needs(int change, int... want) {
            return row("needs", change, want);
        }
    }

    private static int answer(ChangeRooms x, String call) {
        int open = call.indexOf('(');
        String inside = call.substring(open + 1, call.length() - 1);
        int[] a = inside.isEmpty() ? new int[0]
                : Arrays.stream(inside.split(", ")).mapToInt(Integer::parseInt).toArray();
        switch (call.substring(0, open)) {
            case "insert": return x.insert(a[0], a[1], a[2]);
            case "delete": return x.delete(a[0], a[1]);
            case "revert": return x.revert(a[0]);
            case "commit": return x.commit(a[0]);
            case "uncommit": return x.uncommit(a[0], a[1]);
            case "pull": return x.pull(a[0], a[1], a[2]);
            case "changes": return x.changes();
            case "lines": return x.lines(a[0]);
            case "line": return x.line(a[0], a[1]);
            case "source": return x.source(a[0], a[1]);
            case "text": return x.text(a[0], a[1]);
            case "has": return x.has(a[0], a[1]);
            case "needs": return x.needs(a[0], a[1]);
            case "weight": return x.weight(a[0]);
            case "canPull": return x.canPull(a[0], a[1], a[2]);
            case "compare": return x.compare(a[0], a[1]);
            case "unrecorded": return x.unrecorded(a[0]);
            default: throw new IllegalArgumentException(call);
        }
    }

    // What can be seen of an object after some calls. Each part is asked of an object of its own, so
    // that the questions themselves can't blur the view and no object is asked too much.

    private static String look(List<String> calls) {
        StringBuilder seen = new StringBuilder();
        for (int room = 0; room < 3; room++) {
            lookAtRoom(after(calls), room, seen);
            ChangeRooms committed = after(calls);
            seen.append("commit ").append(committed.commit(room)).append(' ');
            lookAtRoom(committed, room, seen);
            ChangeRooms reverted = after(calls);
            seen.append("revert ").append(reverted.revert(room)).append(' ');
            lookAtRoom(reverted, room, seen);
        }
        int changes = after(calls).changes();
        lookAtPulls(after(calls), changes, seen);
        for (int change = 0; change < changes; change++) {
            lookAtNeeds(after(calls), change, changes, seen);
        }
        return seen.toString();
    }

    private static ChangeRooms after(List<String> calls) {
        ChangeRooms x = new ChangeRooms();
        for (String call : calls) {
            answer(x, call);
        }
        return x;
    }

    private static void lookAtRoom(ChangeRooms x, int room, StringBuilder seen) {
        int changes = x.changes();
        seen.append("room ").append(room).append(": ").append(changes).append(' ')
                .append(x.lines(room)).append(' ').append(x.unrecorded(room)).append(';');
        for (int place = 0; place <= 20; place++) {
            seen.append(' ').append(x.line(room, place)).append(' ').append(x.source(room, place))
                    .append(' ').append(x.text(room, place));
        }
        for (int change = 0; change < changes; change++) {
            seen.append(' ').append(x.has(room, change)).append(' ').append(x.weight(change));
        }
        seen.append('\n');
    }

    private static void lookAtPulls(ChangeRooms x, int changes, StringBuilder seen) {
        for (int room = 0; room < 3; room++) {
            for (int other = 0; other < 3; other++) {
                seen.append(x.compare(room, other)).append(' ');
                for (int change = 0; change < changes; change++) {
                    seen.append(x.canPull(room, other, change));
                }
            }
        }
        seen.append('\n');
    }

    private static void lookAtNeeds(ChangeRooms x, int change, int changes, StringBuilder seen) {
        for (int other = 0; other < changes; other++) {
            seen.append(x.needs(change, other));
        }
        seen.append('\n');
    }

    private static int[] many(int count, int text) {
        int[] texts = new int[count];
        Arrays.fill(texts, text);
        return texts;
    }

    private static int[] joined(int[]... rows) {
        return Arrays.stream(rows).flatMapToInt(Arrays::stream).toArray();
    }

    private static int[] texts(int... texts) {
        return texts;
    }

    /** Rooms 0 and 1 have change 0, which put the texts. */
    private static Run twoRooms(String sentence, int... texts) {
        return new Run(sentence).committed(0, texts).due("pull(1, 0, 0)", 1);
    }

    /** Something in every room: files, copies that differ from them, five changes with needs. */
    private static Run lived(String sentence) {
        Run r = twoRooms(sentence, 1, 2, 3).due("pull(2, 1, 0)", 1);
        r.copy(0, 1, 5, 2, 3, 6).due("commit(0)", 2);
        r.copy(1, 1, 3).due("commit(1)", 1).due("pull(1, 0, 2)", 1);
        r.copy(2, 4, 2, 3).due("commit(2)", 1);
        return r.due("insert(0, 2, 7)", 6).due("delete(1, 0)", 1).due("insert(2, 3, 8)", 4);
    }

    // Terms

    private static void roomsAre0To2() {
        String sentence = "There are three ROOMS, 0 to 2";
        String[] withOneRoom = {"insert(%d, 0, 1)", "delete(%d, 0)", "revert(%d)", "commit(%d)", "uncommit(%d, 0)",
            "pull(%d, 0, 1)", "pull(1, %d, 1)", "lines(%d)", "line(%d, 0)", "source(%d, 0)", "text(%d, 0)",
            "has(%d, 0)", "compare(%d, 0)", "compare(0, %d)", "compare(%d, %1$d)", "unrecorded(%d)"};
        Run r = lived(sentence);
        for (String call : withOneRoom) {
            for (int room : NO_ROOMS) {
                r.refused(String.format(call, room), -1);
            }
        }
        for (int room = 0; room < 3; room++) {
            Run each = new Run(sentence).due("insert(" + room + ", 0, " + room + ")", 1);
            each.due("commit(" + room + ")", 1).due("insert(" + room + ", 0, 9)", 2);
            each.due("delete(" + room + ", 0)", 9).due("revert(" + room + ")", 1).file(room, room);
            each.row("source", room, 0).row("text", room, room).row("has", room, 1);
            for (int other = 0; other < 3; other++) {
                each.due("compare(" + room + ", " + other + ")", room == other ? 1 : 4);
                each.due("lines(" + other + ")", room == other ? 1 : 0);
                each.due("unrecorded(" + other + ")", 0);
            }
            int next = (room + 1) % 3;
            each.due("canPull(" + next + ", " + room + ", 0)", 1).due("pull(" + next + ", " + room + ", 0)", 1);
            each.due("uncommit(" + room + ", 0)", 0).file(next, room).file(room);
        }
    }

    private static void atMost20Lines() {
        String sentence = "Each has a FILE, a row of at most 20 LINES";
        int[] full = {0, 1, 2, 3, 4, 5, 6, 7, 8, 9, 9, 8, 7, 6, 5, 4, 3, 2, 1, 0};
        twoRooms(sentence, full).file(0, full).file(1, full).due("delete(0, 19)", 0).due("commit(0)", 1)
                .due("lines(0)", 19).due("uncommit(0, 1)", 20).file(0, full)
                .due("uncommit(0, 0)", 0).due("lines(0)", 0);
    }

    private static void atMost20Texts() {
        String sentence = "and a COPY, a row of at most 20 TEXTS";
        int[] full = {9, 8, 7, 6, 5, 4, 3, 2, 1, 0, 0, 1, 2, 3, 4, 5, 6, 7, 8, 9};
        for (int room = 0; room < 3; room++) {
            new Run(sentence).copy(room, full).row("text", room, full).refused("insert(" + room + ", 20, 1)", -4);
        }
        Run all = new Run(sentence).copy(0, full).copy(1, many(20, 4)).copy(2, many(20, 5));
        all.row("text", 0, full).row("text", 1, many(20, 4)).row("text", 2, many(20, 5));
    }

    private static void textIs0To9() {
        String sentence = "A text is a number from 0 to 9";
        Run r = new Run(sentence).copy(1, 9, 8, 7, 6, 5, 4, 3, 2, 1, 0).due("commit(1)", 1);
        r.file(1, 9, 8, 7, 6, 5, 4, 3, 2, 1, 0).due("delete(1, 9)", 0).due("delete(1, 0)", 9);
        for (int text : new int[] {-1, 10, Integer.MIN_VALUE, Integer.MAX_VALUE}) {
            r.refused("insert(1, 0, " + text + ")", -3);
        }
    }

    private static void aLineIsItself() {
        String sentence = "another line with the same text is another line";
        Run r = new Run(sentence).committed(0, 1, 2).committed(1, 1, 2).due("compare(0, 1)", 4);
        r.due("insert(0, 1, 3)", 3).due("commit(0)", 1).refused("pull(1, 0, 2)", -6);
        r.row("source", 0, 0, 2, 0).row("source", 1, 1, 1);
        // A line that was taken and a new one with its text in its place.
        Run s = twoRooms(sentence, 1, 2, 3).due("delete(0, 1)", 2).due("commit(0)", 1);
        s.due("insert(0, 1, 2)", 3).due("commit(0)", 1).file(0, 1, 2, 3).file(1, 1, 2, 3);
        s.row("source", 0, 0, 2, 0).due("compare(0, 1)", 4).refused("uncommit(0, 1)", -4);
        // Between two lines with the same text, each is told from the other.
        Run t = twoRooms(sentence, 1, 1).due("insert(0, 0, 5)", 3).due("insert(0, 2, 6)", 4).due("commit(0)", 2);
        t.due("pull(1, 0, 2)", 1).file(1, 1, 6, 1).due("pull(1, 0, 1)", 1).file(1, 5, 1, 6, 1);
    }

    private static void atFirstAllEmpty() {
        Run r = new Run("At first all files and copies are empty");
        for (int room = 0; room < 3; room++) {
            r.file(room).row("source", room).row("text", room).row("has", room);
            r.refused("delete(" + room + ", 0)", -2).due("unrecorded(" + room + ")", 0);
        }
    }

    private static void perhapsNone() {
        String sentence = "takes some lines out of a file (perhaps none) and puts new lines in their place (perhaps none)";
        Run r = new Run(sentence).committed(0, 1, 2).due("weight(0)", 2);
        r.committed(0, 1, 3, 2).due("weight(1)", 1).committed(0, 1, 2).due("weight(2)", 1);
        r.committed(0, 1, 4).due("weight(3)", 2).committed(0).due("weight(4)", 2);
        r.due("commit(0)", 0).due("changes()", 5).due("uncommit(0, 4)", 2).file(0, 1, 4);
        r.due("uncommit(0, 3)", 2).due("uncommit(0, 2)", 3).due("uncommit(0, 1)", 2).due("uncommit(0, 0)", 0);
        r.due("pull(1, 0, 0)", -3).due("revert(0)", 0);
    }

    private static void theBeginningAsEdge() {
        String sentence = "the beginning of the file, and its end, stand for lines that are not there: the beginning";
        // Change 1 stands at the beginning; it can be made only where its line is the first one.
        Run r = twoRooms(sentence, 1, 2).committed(0, 3, 1, 2).committed(1, 1, 2, 4).due("pull(1, 0, 1)", 1);
        r.file(1, 3, 1, 2, 4).due("uncommit(1, 1)", 3).file(1, 1, 2, 4).due("revert(1)", 3);
        r.committed(1, 5, 1, 2, 4).refused("pull(1, 0, 1)", -6);
        r.due("uncommit(1, 3)", 3).due("revert(1)", 3).committed(1, 2, 4).refused("pull(1, 0, 1)", -6);
        // What took the first line has the beginning as its first edge.
        Run s = twoRooms(sentence, 1, 2).committed(0, 2).committed(1, 3, 1, 2).refused("pull(1, 0, 1)", -6);
        s.due("uncommit(1, 2)", 2).due("revert(1)", 2).due("pull(1, 0, 1)", 1).file(1, 2);
        s.committed(1, 4, 2).refused("uncommit(1, 1)", -4);
        s.due("uncommit(1, 3)", 1).due("uncommit(1, 1)", 2).file(1, 1, 2);
    }

    private static void theEndAsEdge() {
        String sentence = "the beginning of the file, and its end, stand for lines that are not there: the end";
        Run r = twoRooms(sentence, 1, 2).committed(0, 1, 2, 3).committed(1, 4, 1, 2).due("pull(1, 0, 1)", 1);
        r.file(1, 4, 1, 2, 3).due("uncommit(1, 1)", 3).file(1, 4, 1, 2).due("revert(1)", 3);
        r.committed(1, 4, 1, 2, 5).refused("pull(1, 0, 1)", -6);
        r.due("uncommit(1, 3)", 3).due("revert(1)", 3).committed(1, 4, 1).refused("pull(1, 0, 1)", -6);
        Run s = twoRooms(sentence, 1, 2).committed(0, 1).committed(1, 1, 2, 3).refused("pull(1, 0, 1)", -6);
        s.due("uncommit(1, 2)", 2).due("revert(1)", 2).due("pull(1, 0, 1)", 1).file(1, 1);
        s.committed(1, 1, 4).refused("uncommit(1, 1)", -4);
        s.due("uncommit(1, 3)", 1).due("uncommit(1, 1)", 2).file(1, 1, 2);
    }

    private static void bothEndsAsEdges() {
        String sentence = "the beginning of the file, and its end, stand for lines that are not there: both";
        // Into an empty file; it can be made in no other one.
        Run r = new Run(sentence).committed(0, 1).committed(1, 2).refused("pull(1, 0, 0)", -6);
        r.refused("pull(0, 1, 1)", -6).due("pull(2, 1, 1)", 1).file(2, 2);
        r.due("uncommit(2, 1)", 0).refused("pull(2, 0, 0)", -5).due("revert(2)", 0).due("pull(2, 0, 0)", 1);
        // Out of a file that is empty then.
        Run s = twoRooms(sentence, 1, 2).committed(0).file(0).due("pull(1, 0, 1)", 1).file(1);
        s.committed(1, 3).refused("uncommit(1, 1)", -4).due("uncommit(1, 2)", 0).due("uncommit(1, 1)", 2);
        s.file(1, 1, 2).due("needs(2, 1)", 1).due("needs(2, 0)", 1);
    }

    private static void numberedOverAllRooms() {
        String sentence = "Changes are numbered 0, 1, 2, .. over all rooms, in the order in which they were recorded";
        Run r = new Run(sentence).committed(2, 5).committed(0, 6).committed(1, 7).due("changes()", 3);
        r.row("source", 2, 0).row("source", 0, 1).row("source", 1, 2);
        r.row("has", 0, 0, 1, 0).row("has", 1, 0, 0, 1).row("has", 2, 1, 0, 0);
        r.due("uncommit(1, 2)", 0).due("commit(1)", 1).row("source", 1, 3).row("has", 1, 0, 0, 0, 1);
    }

    private static Run fifteenChanges(String sentence) {
        Run r = new Run(sentence);
        for (int i = 0; i < 15; i++) {
            r.due("insert(0, " + i + ", " + i % 10 + ")", i + 1).due("commit(0)", 1);
        }
        return r.due("changes()", 15);
    }

    private static void atMost16Changes() {
        String sentence = "there are at most 16";
        Run r = fifteenChanges(sentence).due("has(0, 14)", 1).due("has(0, 15)", -2).due("weight(15)", -2);
        r.due("needs(15, 0)", -2).due("needs(0, 15)", -2).refused("uncommit(0, 15)", -2).refused("pull(1, 0, 15)", -2);
        r.due("insert(0, 15, 5)", 16).due("commit(0)", 1).due("changes()", 16).due("source(0, 15)", 15);
        r.due("has(0, 15)", 1).due("weight(15)", 1).due("has(0, 16)", -2).due("weight(16)", -2);
        r.due("needs(16, 0)", -2).due("needs(0, 16)", -2).refused("uncommit(0, 16)", -2).refused("pull(1, 0, 16)", -2);
        for (int other = 0; other < 16; other++) {
            r.due("needs(15, " + other + ")", other < 15 ? 1 : 0);
        }
        r.due("insert(1, 0, 1)", 1).refused("commit(1)", -3).due("revert(1)", 0);
        r.due("canPull(1, 0, 15)", 1).due("pull(1, 0, 15)", 16).due("compare(0, 1)", 1);
        r.due("uncommit(1, 15)", 15).due("pull(2, 0, 0)", 1).due("pull(2, 1, 14)", 14).due("pull(2, 0, 15)", 1);
        r.due("compare(0, 2)", 1).due("changes()", 16);
    }

    private static void atMost60Lines() {
        String sentence = "The lines of all changes together are at most 60";
        Run r = new Run(sentence).committed(0, many(20, 1)).committed(1, many(20, 2)).committed(2, many(20, 3));
        r.row("source", 0, many(20, 0)).row("source", 1, many(20, 1)).row("source", 2, many(20, 2));
        r.file(0, many(20, 1)).file(1, many(20, 2)).file(2, many(20, 3));
        r.due("delete(2, 19)", 3).due("insert(2, 19, 4)", 20).refused("commit(2)", -4).due("delete(2, 19)", 4);
        r.due("commit(2)", 1).file(2, many(19, 3)).due("uncommit(2, 3)", 20).file(2, many(20, 3));
    }

    private static void theSixtiethLineIsNoEnd() {
        String sentence = "the beginning of the file, and its end, .. are not there (beside the last line that can be put)";
        int[][] withTheFirst = {{2, 1}, {1, 2}};
        int[][] withTheLast = {{3, 1}, {1, 3}};
        for (int side = 0; side < 2; side++) {
            Run r = twoRooms(sentence, 1).committed(0, withTheFirst[side]);
            r.committed(2, many(20, 4)).committed(2, many(20, 5)).committed(2, many(17, 6));
            r.committed(1, withTheLast[side]).due("insert(1, 0, 0)", 3).refused("commit(1)", -4).due("revert(1)", 2);
            r.refused("pull(1, 0, 1)", -6).due("uncommit(1, 5)", 1).due("revert(1)", 1).due("pull(1, 0, 1)", 1);
        }
    }

    private static void membersDirectlyBehindEachOther() {
        String sentence = "A run STANDS in a file if its members stand there, in that order, directly one behind the other";
        // Change 1 takes 2 3 from between 1 and 4; room 1 is hindered once in each of its gaps.
        int[][] hindered = {{1, 9, 2, 3, 4}, {1, 2, 9, 3, 4}, {1, 2, 3, 9, 4}};
        for (int[] texts : hindered) {
            Run r = twoRooms(sentence, 1, 2, 3, 4).committed(0, 1, 4).committed(1, texts);
            r.refused("pull(1, 0, 1)", -6).due("uncommit(1, 2)", 4).due("revert(1)", 4);
            r.due("pull(1, 0, 1)", 1).file(1, 1, 4);
        }
        // Each of its members is out once.
        int[][] without = {{2, 3, 4}, {1, 3, 4}, {1, 2, 4}, {1, 2, 3}};
        for (int[] texts : without) {
            Run r = twoRooms(sentence, 1, 2, 3, 4).committed(0, 1, 4).committed(1, texts);
            r.refused("pull(1, 0, 1)", -6);
        }
        // What stands before the run and behind it is free.
        Run s = twoRooms(sentence, 1, 2, 3, 4).committed(0, 1, 4).copy(1, 9, 1, 2, 3, 4, 9).due("commit(1)", 2);
        s.due("pull(1, 0, 1)", 1).file(1, 9, 1, 4, 9).due("uncommit(1, 1)", 6).file(1, 9, 1, 2, 3, 4, 9);
    }

    // The matching: all files and copies of up to four of three texts, against all matchings there are.

    private static void allMatchings() {
        for (int[] file : allRows()) {
            for (int[] copy : allRows()) {
                holdMatching(file, copy);
            }
        }
    }

    private static List<int[]> allRows() {
        List<int[]> rows = new ArrayList<>();
        rows.add(new int[0]);
        for (int k = 0; k < rows.size(); k++) {
            int[] row = rows.get(k);
            for (int text = 0; text < 3 && row.length < 4; text++) {
                rows.add(joined(row, texts(text)));
            }
        }
        return rows;
    }

    private static void holdMatching(int[] file, int[] copy) {
        Run r = new Run("The matching is used that has the most pairs; of these, the one that comes first");
        // One change for each line, so that its source tells which line it is.
        for (int i = 0; i < file.length; i++) {
            r.due("insert(0, " + i + ", " + file[i] + ")", i + 1).due("commit(0)", 1);
        }
        List<Integer> pairs = firstOfTheMost(file, copy);
        int[] sources = new int[copy.length];
        List<Integer> weights = new ArrayList<>();
        int i = 0;
        int j = 0;
        for (int k = 0; k <= pairs.size(); k += 2) {
            int nextI = k < pairs.size() ? pairs.get(k) : file.length;
            int nextJ = k < pairs.size() ? pairs.get(k + 1) : copy.length;
            Arrays.fill(sources, j, nextJ, file.length + weights.size());
            if (nextI > i || nextJ > j) {
                weights.add(nextI - i + nextJ - j);
            }
            if (k < pairs.size()) {
                sources[nextJ] = nextI;
            }
            i = nextI + 1;
            j = nextJ + 1;
        }
        r.copy(0, copy).due("unrecorded(0)", file.length + copy.length - pairs.size());
        r.due("commit(0)", weights.size()).file(0, copy).row("source", 0, sources);
        for (int c = 0; c < weights.size(); c++) {
            r.due("weight(" + (file.length + c) + ")", weights.get(c));
        }
    }

    private static List<Integer> firstOfTheMost(int[] file, int[] copy) {
        List<List<Integer>> all = new ArrayList<>();
        all.add(new ArrayList<>());
        List<Integer> best = all.get(0);
        for (int k = 0; k < all.size(); k++) {
            List<Integer> list = all.get(k);
            if (list.size() > best.size() || (list.size() == best.size() && comesFirst(list, best))) {
                best = list;
            }
            int afterI = list.isEmpty() ? 0 : list.get(list.size() - 2) + 1;
            int afterJ = list.isEmpty() ? 0 : list.get(list.size() - 1) + 1;
            for (int i = afterI; i < file.length; i++) {
                for (int j = afterJ; j < copy.length; j++) {
                    if (file[i] == copy[j]) {
                        List<Integer> longer = new ArrayList<>(list);
                        longer.add(i);
                        longer.add(j);
                        all.add(longer);
                    }
                }
            }
        }
        return best;
    }

    private static boolean comesFirst(List<Integer> a, List<Integer> b) {
        for (int k = 0; k < a.size(); k++) {
            if (!a.get(k).equals(b.get(k))) {
                return a.get(k) < b.get(k);
            }
        }
        return false;
    }

    private static void fullMatchings() {
        String sentence = "The matching is used that has the most pairs (of a full file and a full copy)";
        Run same = new Run(sentence).committed(0, many(20, 1)).copy(0, many(20, 1)).due("unrecorded(0)", 0);
        same.due("commit(0)", 0).row("source", 0, many(20, 0));
        // Of twenty equal lines the first ones are kept, and with the first of the texts.
        Run fewer = new Run(sentence).committed(0, many(20, 1)).committed(0, many(19, 1)).due("weight(1)", 1);
        fewer.committed(0, many(20, 1)).due("source(0, 18)", 0).due("source(0, 19)", 2);
        Run turned = new Run(sentence).committed(0, joined(many(10, 1), many(10, 2)));
        turned.copy(0, joined(many(10, 2), many(10, 1))).due("unrecorded(0)", 20).due("commit(0)", 2);
        turned.row("source", 0, joined(many(10, 1), many(10, 0))).due("weight(1)", 10).due("weight(2)", 10);
    }

    private static void beforeBetweenBehind() {
        String sentence = "Wherever, before, between or behind the pairs .. that is one change .. from the top on";
        Run r = new Run(sentence).committed(0, 1, 2).copy(0, 5, 1, 6, 2, 7).due("commit(0)", 3);
        r.row("source", 0, 1, 0, 2, 0, 3);
        Run s = new Run(sentence).committed(0, 5, 1, 6, 2, 7).copy(0, 1, 2).due("commit(0)", 3);
        s.due("uncommit(0, 1)", 3).due("uncommit(0, 2)", 4).due("uncommit(0, 3)", 5).file(0, 5, 1, 6, 2, 7);
        // Taken and put at one place is one change, not two.
        Run t = new Run(sentence).committed(0, 5, 1, 6, 2, 7).copy(0, 8, 1, 8, 8, 2, 8).due("commit(0)", 3);
        t.due("weight(1)", 2).due("weight(2)", 3).due("weight(3)", 2).row("source", 0, 1, 0, 2, 2, 0, 3);
        // The most changes that one commit can record.
        Run u = new Run(sentence).committed(0, 8, 0, 8, 0, 8, 0, 8, 0, 8, 0, 8, 0, 8, 0, 0, 0, 0, 0, 0, 0);
        u.copy(0, 0, 0, 0, 0, 0, 0, 0, 9, 0, 9, 0, 9, 0, 9, 0, 9, 0, 9, 0, 9).due("commit(0)", 14);
        u.row("source", 0, 0, 0, 0, 0, 0, 0, 0, 8, 0, 9, 0, 10, 0, 11, 0, 12, 0, 13, 0, 14);
        for (int c = 1; c < 15; c++) {
            u.due("weight(" + c + ")", 1);
        }
    }

    private static void theGreatestNumber() {
        String sentence = "d being the change with the greatest number, of those that the room had when it was recorded";
        // 1 2 are neighbours after changes 0, 2 and 4.
        Run r = new Run(sentence).committed(0, 1, 2).committed(0, 1, 3, 2).committed(0, 1, 2);
        r.committed(0, 1, 4, 2).committed(0, 1, 2).committed(0, 1, 5, 2);
        r.needs(3, 1, 1, 1, 0, 0, 0).needs(5, 1, 1, 1, 1, 1, 0);
        // A room that has only 0 to 2, and one that has only 0.
        r.due("pull(1, 0, 2)", 3).committed(1, 1, 6, 2).needs(6, 1, 1, 1, 0, 0, 0, 0);
        r.due("pull(2, 0, 0)", 1).committed(2, 1, 7, 2).needs(7, 1, 0, 0, 0, 0, 0, 0, 0);
        // A room that had them and has them no more.
        r.due("uncommit(0, 5)", 2).due("uncommit(0, 4)", 3).due("uncommit(0, 3)", 2).due("revert(0)", 2);
        r.committed(0, 1, 8, 2).needs(8, 1, 1, 1, 0, 0, 0, 0, 0, 0);
    }

    private static void neighboursInItsRunAfterIt() {
        String sentence = "in whose run after it u and v are neighbours in this order, too";
        // After changes 2 and 3, 1 and 2 have other neighbours than in the run 1 5 2 of change 1.
        Run r = twoRooms(sentence, 1, 2).committed(0, 1, 5, 2).committed(1, 1, 6, 2).committed(1, 1, 2);
        r.due("pull(1, 0, 1)", 1).committed(1, 1, 7, 5, 2).needs(4, 1, 1, 0, 0, 0);
        r.committed(1, 1, 7, 5, 8, 2).needs(5, 1, 1, 0, 0, 0, 0);
        // It is the run after it that counts: change 1 has 1 2 as neighbours in its run before it.
        Run s = new Run(sentence).committed(0, 1, 2).committed(0, 1, 3, 2).due("needs(1, 0)", 1);
        s.committed(0, 4, 1, 3, 2).needs(2, 1, 0, 0).committed(0, 4, 1, 3, 2, 5).needs(3, 1, 0, 0, 0);
    }

    private static void ifThereIsSuchAChange() {
        String sentence = "it needs d (if there is such a change)";
        Run r = new Run(sentence).committed(0, 1).needs(0, 0).committed(1, 1).needs(1, 0, 0);
        r.due("uncommit(0, 0)", 0).due("commit(0)", 1).needs(2, 0, 0, 0);
        // The beginning and the end are neighbours in an emptied file.
        r.committed(0).needs(3, 0, 0, 1, 0).committed(0, 4).needs(4, 0, 0, 1, 1, 0);
    }

    private static void allNeighboursInItsRun() {
        String sentence = "this for all neighbours in its run";
        // Changes 1, 2 and 3 each put a line; what takes 5 to 7 has a pair of neighbours of each.
        Run r = new Run(sentence).committed(0, 1, 2, 3, 4).copy(0, 1, 5, 2, 6, 3, 7, 4).due("commit(0)", 3);
        r.committed(0, 1, 5, 2, 6, 3, 7, 8, 4).needs(4, 1, 0, 0, 1, 0);
        r.committed(0, 9, 1, 5, 2, 6, 3, 7, 8, 4).needs(5, 1, 0, 0, 0, 0, 0);
        r.committed(0, 9, 1, 5, 0, 6, 3, 7, 8, 4).needs(6, 1, 1, 1, 0, 0, 0, 0);
        // The first neighbours alone, and the last ones alone.
        r.committed(0, 9, 1, 4, 5, 0, 6, 3, 7, 8, 4).needs(7, 1, 1, 0, 0, 0, 0, 0, 0);
        r.committed(0, 9, 1, 4, 5, 0, 6, 3, 7, 8, 4, 2).needs(8, 1, 0, 0, 0, 0, 0, 0, 0, 0);
        r.committed(0).needs(9, 1, 1, 1, 1, 1, 1, 1, 1, 1, 0);
    }

    private static void onlyLesserNumbers() {
        String sentence = "So a change needs only changes with lesser numbers";
        Run r = lived(sentence);
        for (int change = 0; change < 5; change++) {
            for (int other = change; other < 5; other++) {
                r.due("needs(" + change + ", " + other + ")", 0);
            }
        }
        r.needs(1, 1, 0, 0, 0, 0).needs(2, 1, 0, 0, 0, 0).needs(3, 1, 0, 0, 0, 0).needs(4, 1, 0, 0, 0, 0);
    }

    private static void roomThenChange() {
        String sentence = "A room that is not 0 to 2: -1, tested first; then a change that there is not: -2";
        Run r = lived(sentence);
        for (String call : new String[] {"uncommit(%d, %d)", "pull(%d, 0, %d)", "pull(0, %d, %d)", "has(%d, %d)"}) {
            for (int change : new int[] {-1, 0, 4, 5, Integer.MIN_VALUE, Integer.MAX_VALUE}) {
                r.refused(String.format(call, 3, change), -1).refused(String.format(call, -1, change), -1);
            }
            for (int change : new int[] {-1, 5, 16, 32, Integer.MIN_VALUE, Integer.MAX_VALUE}) {
                r.refused(String.format(call, 2, change), -2);
            }
        }
    }

    private static void questionsChangeNothing() {
        String[] questions = {"changes()", "lines(0)", "line(0, 1)", "source(0, 1)", "text(0, 1)", "has(0, 1)",
            "needs(1, 0)", "weight(1)", "canPull(1, 0, 1)", "canPull(2, 0, 2)", "canPull(2, 1, 3)", "canPull(0, 2, 4)",
            "compare(0, 1)", "compare(1, 1)", "unrecorded(0)", "unrecorded(1)", "unrecorded(2)"};
        Run r = lived("questions; they change nothing");
        Run clean = lived("questions; they change nothing").due("revert(0)", 5).due("revert(1)", 3).due("revert(2)", 3);
        clean.due("canPull(2, 0, 2)", 1).due("canPull(1, 2, 4)", 0).due("canPull(0, 1, 3)", 0);
        for (String question : questions) {
            r.refused(question, answer(after(r.made), question));
            clean.refused(question, answer(after(clean.made), question));
        }
    }

    private static void after512Calls() {
        Run r = new Run("An object is used for at most 512 calls").committed(0, 1, 2);
        while (r.made.size() < MOST_CALLS - 6) {
            r.due("insert(0, 1, 3)", 3).due("delete(0, 1)", 3);
        }
        while (r.made.size() < MOST_CALLS - 2) {
            r.due("changes()", 1);
        }
        r.due("insert(0, 0, 9)", 3).due("commit(0)", 1);
    }

    // Promises 1 to 4

    private static void newObject() {
        Run r = new Run("All empty, no changes").due("changes()", 0).due("weight(0)", -2).due("needs(0, 0)", -2);
        for (int room = 0; room < 3; room++) {
            r.due("commit(" + room + ")", 0).due("revert(" + room + ")", 0).due("compare(0, " + room + ")", 1);
            r.refused("uncommit(" + room + ", 0)", -2).refused("pull(" + room + ", 0, 0)", -2);
            r.due("canPull(" + room + ", 0, 0)", 0);
        }
        r.due("changes()", 0);
    }

    private static void insertPlace() {
        Run r = new Run("place is not from 0 to the number of texts: -2");
        r.refused("insert(0, -1, 1)", -2).refused("insert(0, 1, 1)", -2).due("insert(0, 0, 1)", 1);
        r.refused("insert(0, -1, 1)", -2).refused("insert(0, 2, 1)", -2).due("insert(0, 1, 2)", 2);
        r.refused("insert(0, 3, 1)", -2).due("insert(0, 0, 3)", 3).row("text", 0, 3, 1, 2);
        r.refused("insert(0, 2147483647, 1)", -2).refused("insert(0, -2147483648, 1)", -2);
        // The number of texts counts, not that of the lines, nor that of another room.
        r.due("commit(0)", 1).due("delete(0, 0)", 3).refused("insert(0, 3, 1)", -2).due("insert(0, 2, 4)", 3);
        r.refused("insert(1, 1, 1)", -2).due("insert(0, 3, 4)", 4).row("text", 0, 1, 2, 4, 4);
        r.copy(2, many(19, 1)).refused("insert(2, 20, 1)", -2).due("insert(2, 19, 2)", 20);
    }

    private static void insertText() {
        Run r = new Run("text is not 0 to 9: -3").refused("insert(0, 0, -1)", -3).refused("insert(0, 0, 10)", -3);
        r.due("insert(0, 0, 0)", 1).due("insert(0, 1, 9)", 2).row("text", 0, 0, 9);
        r.refused("insert(0, 2, -1)", -3).refused("insert(0, 2, 10)", -3);
        r.refused("insert(0, 1, 2147483647)", -3).refused("insert(0, 1, -2147483648)", -3);
    }

    private static void insertInto20() {
        Run r = new Run("the copy has 20 texts: -4").copy(1, many(19, 3)).due("insert(1, 9, 5)", 20);
        r.refused("insert(1, 0, 0)", -4).refused("insert(1, 9, 9)", -4).refused("insert(1, 20, 0)", -4);
        r.due("insert(0, 0, 1)", 1).due("insert(2, 0, 1)", 1);
        r.due("delete(1, 9)", 5).due("insert(1, 19, 6)", 20).refused("insert(1, 0, 0)", -4);
        // A full file with a copy that is not full, and the other way round.
        r.due("commit(1)", 1).due("delete(1, 0)", 3).due("insert(1, 0, 2)", 20).refused("insert(1, 0, 2)", -4);
    }

    private static void insertOrder() {
        Run r = new Run("Room: -1; place ..: -2; text ..: -3; the copy has 20 texts: -4").copy(0, many(20, 1));
        r.refused("insert(3, 21, 10)", -1).refused("insert(-1, -1, -1)", -1).refused("insert(3, 0, 1)", -1);
        r.refused("insert(0, 21, 10)", -2).refused("insert(0, -1, -1)", -2).refused("insert(0, 21, 1)", -2);
        r.refused("insert(0, 20, 10)", -3).refused("insert(0, 0, -1)", -3).refused("insert(0, 20, 1)", -4);
        r.refused("insert(1, 1, 10)", -2).refused("insert(1, 0, 10)", -3).due("insert(1, 0, 9)", 1);
    }

    private static void deletePlace() {
        Run r = new Run("Takes the text at a place out .. there is no such place: -2").refused("delete(0, 0)", -2);
        r.refused("delete(0, -1)", -2).copy(0, 0, 1, 2, 3).refused("delete(0, 4)", -2).refused("delete(0, -1)", -2);
        r.refused("delete(0, -2147483648)", -2).refused("delete(0, 2147483647)", -2);
        r.due("delete(0, 3)", 3).refused("delete(0, 3)", -2).due("delete(0, 0)", 0).row("text", 0, 1, 2);
        r.due("delete(0, 0)", 1).due("delete(0, 0)", 2).refused("delete(0, 0)", -2);
        r.copy(0, many(20, 4)).refused("delete(0, 20)", -2).due("delete(0, 19)", 4).refused("delete(0, 19)", -2);
        // A place of the file is none of the copy.
        r.committed(1, 5, 6).due("delete(1, 1)", 6).refused("delete(1, 1)", -2).file(1, 5, 6);
        r.refused("delete(3, 0)", -1).refused("delete(-1, 99)", -1).refused("delete(2, 0)", -2);
    }

    private static void reverting() {
        Run r = new Run("The room's copy becomes what its file is .. answers how many texts it has");
        r.refused("revert(-1)", -1).refused("revert(3)", -1).due("revert(0)", 0);
        r.copy(0, many(20, 1)).due("revert(0)", 0).row("text", 0).due("unrecorded(0)", 0);
        r.committed(0, joined(texts(0), many(19, 9))).copy(0).due("revert(0)", 20);
        r.row("text", 0, joined(texts(0), many(19, 9))).due("revert(0)", 20);
        r.copy(0, many(20, 5)).due("revert(0)", 20).row("text", 0, joined(texts(0), many(19, 9)));
        r.file(0, joined(texts(0), many(19, 9)));
    }

    // Promise 5

    private static void commitNothing() {
        Run r = new Run("Else answers how many changes were recorded: none").due("commit(0)", 0).due("changes()", 0);
        r.committed(0, 1, 2).due("commit(0)", 0).due("delete(0, 0)", 1).due("insert(0, 0, 1)", 2).due("commit(0)", 0);
        r.due("changes()", 1).row("source", 0, 0, 0).refused("commit(3)", -1).refused("commit(-1)", -1);
    }

    private static void moreThan16Changes() {
        String sentence = "there would be more than 16 changes: -3";
        // 15 and two, in one room and in another one.
        Run r = fifteenChanges(sentence).due("insert(0, 0, 9)", 16).due("insert(0, 16, 9)", 17);
        r.refused("commit(0)", -3).due("delete(0, 16)", 9).due("commit(0)", 1).due("changes()", 16);
        r.due("commit(0)", 0).due("insert(0, 0, 1)", 17).refused("commit(0)", -3).due("revert(0)", 16);
        // Taking a line needs a change, too; a change that no room has is still one.
        r.due("delete(0, 0)", 9).refused("commit(0)", -3).due("uncommit(0, 15)", 15).due("commit(0)", 0);
        r.due("revert(0)", 15).due("delete(0, 0)", 0).refused("commit(0)", -3);
        // 14 and two, 14 and three.
        Run s = new Run(sentence).committed(0, 0, 1, 2, 3, 4, 5, 6, 7, 8, 9);
        for (int i = 0; i < 13; i++) {
            s.due("delete(0, 9)", i % 2 == 0 ? 9 : 0).due("insert(0, 9, " + (i % 2 == 0 ? 0 : 9) + ")", 10);
            s.due("commit(0)", 1);
        }
        s.due("changes()", 14).due("delete(0, 1)", 1).due("delete(0, 2)", 3).due("delete(0, 3)", 5);
        s.refused("commit(0)", -3).due("insert(0, 3, 5)", 8).due("commit(0)", 2).due("changes()", 16);
        s.refused("uncommit(0, 16)", -2).row("has", 0, many(16, 1));
    }

    private static void moreThan60Lines() {
        String sentence = "all changes would have put more than 60 lines together: -4";
        Run r = new Run(sentence).committed(0, many(20, 1)).committed(1, many(20, 2)).committed(2, many(19, 3));
        // A change that no room has keeps its lines; lines that were taken count on.
        r.due("uncommit(2, 2)", 0).due("commit(1)", 0).committed(1).copy(1, 7, 7).refused("commit(1)", -4);
        r.refused("commit(2)", -4).due("delete(1, 0)", 7).due("commit(1)", 1).due("changes()", 5);
        r.file(1, 7).row("source", 1, 4).copy(1, 7, 8).refused("commit(1)", -4).copy(1).due("commit(1)", 1);
        r.due("revert(2)", 0).due("pull(2, 1, 4)", 3).file(2, 7).row("source", 2, 4);
        // Pulling puts no new lines.
        Run s = new Run(sentence).committed(0, many(20, 1)).due("pull(1, 0, 0)", 1).due("pull(2, 0, 0)", 1);
        s.committed(0, many(20, 2)).committed(0, many(20, 3)).due("pull(1, 0, 2)", 2).due("pull(2, 1, 2)", 2);
        s.file(1, many(20, 3)).row("source", 2, many(20, 2)).due("delete(1, 0)", 3).due("commit(1)", 1);
        s.due("insert(1, 0, 3)", 20).refused("commit(1)", -4);
    }

    private static void commitOrder() {
        String sentence = "there would be more than 16 changes: -3; .. more than 60 lines together: -4";
        Run r = new Run(sentence).committed(0, many(20, 1)).committed(1, many(20, 2));
        for (int i = 0; i < 7; i++) {
            r.due("delete(0, 0)", 1).due("commit(0)", 1).due("insert(0, 0, 1)", 20).due("commit(0)", 1);
        }
        r.due("changes()", 16).copy(2, many(20, 3)).refused("commit(2)", -3).refused("commit(3)", -1);
    }

    // Promise 6

    private static void uncommitOfNoChange() {
        Run r = lived("uncommit .. Room: -1; change: -2");
        r.refused("uncommit(3, 5)", -1).refused("uncommit(-1, -1)", -1).refused("uncommit(0, 5)", -2);
        r.refused("uncommit(0, -1)", -2).refused("uncommit(0, 2147483647)", -2).refused("uncommit(0, -2147483648)", -2);
        r.due("uncommit(2, 4)", 3).due("uncommit(2, 0)", 0);
    }

    private static void uncommitWhatTheRoomHasNot() {
        String sentence = "the room does not have it: -3";
        Run r = lived(sentence).refused("uncommit(0, 3)", -3).refused("uncommit(2, 1)", -3);
        r.due("uncommit(0, 1)", 4).refused("uncommit(0, 1)", -3).file(0, 1, 2, 3, 6);
        // Its run after it stands in the other file nevertheless, and it would be too long there.
        Run s = new Run(sentence).committed(0, joined(texts(1), many(18, 5), texts(2))).due("pull(1, 0, 0)", 1);
        s.committed(0, 1, 2).committed(1, 1, 2).refused("uncommit(1, 1)", -3).due("pull(2, 1, 2)", 2);
        s.copy(2, 3, 3, 3, 1, 2).due("commit(2)", 1).refused("uncommit(2, 1)", -3).refused("uncommit(2, 2)", -5);
    }

    private static void uncommitWhatDoesNotStand() {
        String sentence = "its run after it does not stand in the file .. : -4";
        // Change 2 leaves 1 2 as neighbours; change 3, which does not need it, comes between them.
        Run r = twoRooms(sentence, 1, 2).committed(0, 1, 5, 2).committed(0, 1, 2).committed(1, 1, 6, 2);
        r.due("pull(0, 1, 3)", 1).due("needs(3, 2)", 0).refused("uncommit(0, 2)", -4);
        r.due("uncommit(0, 3)", 2).due("uncommit(0, 2)", 3).file(0, 1, 5, 2);
    }

    private static void uncommitWhatIsNeeded() {
        String sentence = "or the room has a change that needs it: -4";
        // After changes 2 and 3 the run after change 1 stands again.
        Run r = twoRooms(sentence, 1, 2).committed(0, 1, 3, 2).committed(0, 1, 4, 3, 2).committed(0, 1, 3, 2);
        r.refused("uncommit(0, 1)", -4).refused("uncommit(0, 0)", -4).refused("uncommit(0, 2)", -4);
        // In a room that has nothing that needs it, it goes out.
        r.due("pull(1, 0, 1)", 1).due("uncommit(1, 1)", 2).due("uncommit(1, 0)", 0);
        r.due("uncommit(0, 3)", 4).due("uncommit(0, 2)", 3).due("uncommit(0, 1)", 2).due("uncommit(0, 0)", 0);
        // What is needed only through another change is needed.
        Run s = new Run(sentence).committed(0, 1).committed(0).committed(0, 2).committed(0);
        s.refused("uncommit(0, 0)", -4).refused("uncommit(0, 1)", -4).refused("uncommit(0, 2)", -4);
        s.due("uncommit(0, 3)", 1).due("uncommit(0, 2)", 0).due("uncommit(0, 1)", 1);
    }

    private static void uncommitTo21Lines() {
        String sentence = "the file would have more than 20 lines: -5";
        for (int more = 8; more <= 9; more++) {
            // Change 1 took ten lines from before 1, then others were put elsewhere.
            Run r = new Run(sentence).committed(0, joined(many(10, 5), texts(1, 2))).committed(0, 1, 2);
            r.committed(0, joined(texts(1, 2), many(more, 6)));
            if (more == 8) {
                r.due("uncommit(0, 1)", 20).file(0, joined(many(10, 5), texts(1, 2), many(8, 6)));
            } else {
                r.refused("uncommit(0, 1)", -5).due("delete(0, 10)", 6).refused("uncommit(0, 1)", -5);
                r.due("commit(0)", 1).due("uncommit(0, 1)", 20);
            }
        }
        // The lines that it put make room for those that it took.
        for (int put = 2; put <= 3; put++) {
            Run s = new Run(sentence).committed(0, joined(many(13, 5), texts(1)));
            s.committed(0, joined(many(put, 6), texts(1))).committed(0, joined(many(put, 6), texts(1), many(7, 7)));
            s.refused("uncommit(0, 1)", -5).due("uncommit(0, 2)", put + 1).due("revert(0)", put + 1);
            s.committed(0, joined(many(put, 6), texts(1), many(6, 7))).due("uncommit(0, 1)", 20);
        }
        // To a full file of lines that were all taken.
        Run t = new Run(sentence).committed(0, many(20, 1)).committed(0).due("uncommit(0, 1)", 20).file(0, many(20, 1));
        t.committed(0, many(20, 2)).due("uncommit(0, 2)", 20).file(0, many(20, 1)).row("text", 0, many(20, 2));
    }

    private static void uncommitOrder() {
        String sentence = ".. or the room has a change that needs it: -4; the file would have more than 20 lines: -5";
        // Change 1 took ten lines; change 2 put ten others where they were, so change 1 does not stand.
        Run r = new Run(sentence).committed(0, joined(many(10, 5), texts(1, 2))).committed(0, 1, 2);
        r.committed(0, joined(many(10, 6), texts(1, 2))).refused("uncommit(0, 1)", -4);
        // It stands again after change 3, but is needed, and would be too long after change 4.
        r.committed(0, 1, 2).committed(0, joined(texts(1, 2), many(9, 7))).refused("uncommit(0, 1)", -4);
        r.refused("uncommit(0, 3)", -5).due("lines(0)", 11);
        r.refused("uncommit(3, 1)", -1).refused("uncommit(0, 5)", -2).refused("uncommit(1, 1)", -3);
    }

    private static void theCopyStays() {
        Run r = new Run("the copy stays").committed(0, 1, 2).committed(0, 1, 3, 2).due("uncommit(0, 1)", 2);
        r.row("text", 0, 1, 3, 2).file(0, 1, 2).due("unrecorded(0)", 1).due("uncommit(0, 0)", 0);
        r.row("text", 0, 1, 3, 2).file(0).due("unrecorded(0)", 3).due("commit(0)", 1).row("source", 0, 2, 2, 2);
        Run s = new Run("the copy stays").committed(0, many(20, 1)).copy(0).due("uncommit(0, 0)", 0).row("text", 0);
        s.due("unrecorded(0)", 0).due("pull(0, 0, 0)", -3).due("commit(0)", 0);
    }

    // Promise 7

    private static void pullBetweenNoRooms() {
        Run r = lived("Rooms (both): -1");
        for (int no : NO_ROOMS) {
            r.refused("pull(" + no + ", 0, 1)", -1).refused("pull(2, " + no + ", 1)", -1);
            r.refused("pull(" + no + ", " + no + ", 1)", -1).refused("pull(" + no + ", 0, 99)", -1);
            r.refused("pull(2, " + no + ", 99)", -1).refused("pull(2, " + no + ", -1)", -1);
        }
        r.due("revert(2)", 3).due("pull(2, 0, 2)", 1);
    }

    private static void pullOfNoChange() {
        Run r = lived("pull .. change: -2").refused("pull(2, 0, 5)", -2).refused("pull(2, 0, -1)", -2);
        r.due("revert(2)", 3).refused("pull(2, 0, 5)", -2).refused("pull(2, 2, 5)", -2).refused("pull(2, 0, 16)", -2);
        r.refused("pull(2, 0, 2147483647)", -2).refused("pull(2, 0, -2147483648)", -2);
        // The first and the last change that there are.
        r.due("uncommit(1, 2)", 2).due("uncommit(1, 3)", 3).due("uncommit(1, 0)", 0).due("revert(1)", 0);
        r.due("pull(1, 0, 0)", 1).due("pull(1, 2, 4)", 1).file(1, 4, 2, 3);
    }

    private static void pullWhatFromHasNot() {
        String sentence = "the room 'from' does not have it: -3";
        Run r = lived(sentence).refused("pull(0, 2, 3)", -3).refused("pull(2, 0, 3)", -3);
        // Room 0 has it, too; its copy is not as its file; and a room is not asked for another one.
        r.refused("pull(0, 2, 1)", -3).due("revert(0)", 5).refused("pull(0, 2, 1)", -3).refused("pull(0, 0, 3)", -3);
        r.due("uncommit(0, 1)", 4).due("revert(0)", 4).refused("pull(0, 0, 1)", -3).refused("pull(0, 1, 1)", -3);
    }

    private static void pullWhatRoomHas() {
        String sentence = "'room' has it: -4";
        Run r = lived(sentence).refused("pull(0, 1, 0)", -4).refused("pull(0, 0, 0)", -4).refused("pull(0, 1, 2)", -4);
        r.due("revert(0)", 5).refused("pull(0, 1, 0)", -4).refused("pull(0, 0, 1)", -4);
        r.due("uncommit(0, 2)", 4).due("revert(0)", 4).due("pull(0, 1, 2)", 1).refused("pull(0, 1, 2)", -4);
    }

    private static void pullBesideAnotherCopy() {
        String sentence = "the room's copy is not, text by text, what its file is: -5";
        int[][] others = {{}, {1}, {2}, {3, 2}, {1, 3}, {2, 1}, {1, 2, 2}, {1, 1, 2}, {1, 2, 3}};
        for (int[] other : others) {
            Run r = twoRooms(sentence, 1, 2).committed(0, 1, 2, 4).copy(1, other).refused("pull(1, 0, 1)", -5);
            r.due("canPull(1, 0, 1)", 0).due("revert(1)", 2).due("pull(1, 0, 1)", 1);
        }
        // The same texts typed again are what the file is; the copy of 'from' is free.
        Run s = twoRooms(sentence, 1, 2).committed(0, 1, 2, 4).copy(0, 7).copy(1, 1, 2).due("pull(1, 0, 1)", 1);
        s.row("text", 1, 1, 2, 4).row("text", 0, 7);
        Run empty = new Run(sentence).committed(0, 1).due("insert(1, 0, 1)", 1).refused("pull(1, 0, 0)", -5);
        empty.due("delete(1, 0)", 1).due("pull(1, 0, 0)", 1);
        // In the last text of a full file.
        Run full = twoRooms(sentence, many(20, 1)).committed(0, many(19, 1)).due("delete(1, 19)", 1);
        full.refused("pull(1, 0, 1)", -5).due("insert(1, 19, 2)", 20).refused("pull(1, 0, 1)", -5);
        full.due("delete(1, 19)", 2).due("insert(1, 19, 1)", 20).due("pull(1, 0, 1)", 1);
    }

    private static void pullBesideAnotherCopyOrder() {
        String sentence = "what its file is: -5; .. does not stand in the file: -6; .. more than 20 lines ..: -7";
        Run r = twoRooms(sentence, 1, 2).committed(0, 1, 3, 2).committed(1, 1, 4, 2).due("insert(1, 0, 5)", 4);
        r.refused("pull(1, 0, 1)", -5).due("revert(1)", 3).refused("pull(1, 0, 1)", -6);
        Run s = twoRooms(sentence, 1, 2).committed(0, joined(texts(1, 2), many(9, 3)));
        s.committed(1, joined(many(10, 4), texts(1, 2))).due("delete(1, 0)", 4).refused("pull(1, 0, 1)", -5);
        s.due("revert(1)", 12).refused("pull(1, 0, 1)", -7);
    }

    private static void pullWhatDoesNotStand() {
        String sentence = "when its turn comes, the run before a change does not stand in the file: -6";
        Run r = twoRooms(sentence, 1, 2).committed(0, 1, 3, 2).committed(0, 1, 3, 4, 2).committed(1, 1, 5, 2);
        r.refused("pull(1, 0, 1)", -6).refused("pull(1, 0, 2)", -6).refused("pull(0, 1, 3)", -6);
        r.due("uncommit(1, 3)", 2).due("revert(1)", 2).due("pull(1, 0, 2)", 2).file(1, 1, 3, 4, 2);
        // It does not stand before the pull, but when its turn comes: change 1 makes it stand.
        Run s = twoRooms(sentence, 1, 2).committed(0, 3, 1, 2).committed(0, 3, 4, 1, 2).due("pull(1, 0, 2)", 2);
        s.file(1, 3, 4, 1, 2);
        // The first of two could be made, the second not: nothing is made.
        Run t = twoRooms(sentence, 1, 2, 3).committed(0, 1, 4, 2, 3).committed(0, 1, 4, 5).committed(1, 1, 2, 3, 6);
        t.refused("pull(1, 0, 2)", -6).due("has(1, 1)", 0).due("pull(1, 0, 1)", 1).refused("pull(1, 0, 2)", -6);
        // A needed change that the room has is not made again.
        Run u = twoRooms(sentence, 1, 2).committed(0, 1, 3, 2).due("pull(1, 0, 1)", 1).committed(0, 1, 3, 4, 2);
        u.due("pull(1, 0, 2)", 1).due("uncommit(1, 2)", 3).due("revert(1)", 3).due("pull(1, 0, 2)", 1);
    }

    private static void pullTo21Lines() {
        String sentence = "the file would have more than 20 lines after one of them: -7";
        // Room 1 has two lines and eight or nine more; change 1 puts ten.
        Run r = twoRooms(sentence, 1, 2).committed(0, joined(many(10, 3), texts(1, 2)));
        r.committed(1, joined(texts(1, 2), many(9, 4))).refused("pull(1, 0, 1)", -7).due("delete(1, 10)", 4);
        r.due("commit(1)", 1).due("pull(1, 0, 1)", 1).file(1, joined(many(10, 3), texts(1, 2), many(8, 4)));
        // After the first of two there would be 21, and one after the second: still -7. With 20 it is made.
        Run s = twoRooms(sentence, 1, 2).committed(0, joined(many(10, 3), texts(1, 2))).committed(0, 1, 2);
        s.committed(1, joined(texts(1, 2), many(9, 4))).refused("pull(1, 0, 2)", -7).due("delete(1, 10)", 4);
        s.due("commit(1)", 1).due("pull(1, 0, 2)", 2).file(1, joined(texts(1, 2), many(8, 4)));
        // The lines that it takes make room for those that it puts.
        Run t = twoRooms(sentence, many(20, 1)).committed(0, many(20, 2)).due("pull(1, 0, 1)", 1);
        t.file(1, many(20, 2));
        // The second of two is too long: the first is not made either.
        Run u = twoRooms(sentence, 1, 2).committed(0, 3, 1, 2).committed(0, joined(many(10, 3), texts(1, 2)));
        u.committed(1, joined(texts(1, 2), many(9, 4))).refused("pull(1, 0, 2)", -7).due("pull(1, 0, 1)", 1);
        u.file(1, joined(texts(3, 1, 2), many(9, 4))).refused("pull(1, 0, 2)", -7);
    }

    private static void whicheverComesFirst() {
        String sentence = "-6 or -7, whichever comes first";
        // One change does not stand and would be too long.
        Run r = twoRooms(sentence, 1, 2).committed(0, joined(texts(1), many(10, 3), texts(2)));
        r.committed(1, joined(texts(1), many(10, 4), texts(2))).refused("pull(1, 0, 1)", -6);
        // The first of two is too long, the second would not stand.
        Run s = twoRooms(sentence, 1, 2).committed(0, joined(many(10, 3), texts(1, 2)));
        s.committed(0, joined(many(9, 3), texts(2))).needs(2, 1, 1, 0);
        s.committed(1, joined(texts(1), many(9, 4), texts(2))).refused("pull(1, 0, 2)", -7);
        s.due("delete(1, 1)", 4).due("commit(1)", 1).refused("pull(1, 0, 2)", -6);
        // The first of two does not stand, the second would be too long.
        Run t = twoRooms(sentence, 1, 2).committed(0, 1, 3, 2).committed(0, joined(texts(1, 3), many(9, 5), texts(2)));
        t.committed(1, joined(texts(1), many(9, 4), texts(2))).refused("pull(1, 0, 2)", -6);
        // The first of two is made, the second does not stand and would be too long.
        Run u = twoRooms(sentence, 1, 2, 3).committed(0, 1, 4, 2, 3);
        u.committed(0, joined(texts(1, 4), many(10, 5), texts(3))).needs(2, 1, 1, 0);
        u.committed(1, joined(texts(1, 2), many(8, 6), texts(3))).refused("pull(1, 0, 2)", -6);
        // The same where the second stands, to 21 lines and to 20.
        Run v = twoRooms(sentence, 1, 2, 3).committed(0, 1, 4, 2, 3);
        v.committed(0, joined(texts(1, 4), many(10, 5), texts(3)));
        v.committed(1, joined(texts(1, 2, 3), many(8, 6))).refused("pull(1, 0, 2)", -7).due("delete(1, 10)", 6);
        v.due("commit(1)", 1).due("pull(1, 0, 2)", 2).due("lines(1)", 20);
    }

    private static void pullAnswers() {
        String sentence = "Else the copy becomes what the file is then; answers how many changes were made";
        Run r = fifteenChanges(sentence).due("pull(1, 0, 0)", 1).row("text", 1, 0).due("pull(1, 0, 2)", 2);
        r.row("text", 1, 0, 1, 2).due("pull(1, 0, 14)", 12).due("compare(0, 1)", 1).due("pull(2, 1, 14)", 15);
        r.due("unrecorded(1)", 0).due("unrecorded(2)", 0).due("changes()", 15);
        // To an empty file, and to a full one.
        Run s = twoRooms(sentence, 1, 2).committed(0).due("pull(1, 0, 1)", 1).file(1).row("text", 1);
        s.committed(0, many(20, 3)).due("pull(1, 0, 2)", 1).row("text", 1, many(20, 3));
    }

    // Promises 8 to 18

    private static void countingChanges() {
        Run r = new Run("How many changes there are");
        for (int i = 0; i < 16; i++) {
            r.due("changes()", i).due("insert(0, 0, 1)", i + 1).due("changes()", i).due("commit(0)", 1);
        }
        r.due("changes()", 16).due("insert(0, 0, 1)", 17).refused("commit(0)", -3).due("changes()", 16);
        r.due("uncommit(0, 15)", 15).due("changes()", 16);
    }

    private static void countingLines() {
        Run r = new Run("How many lines a room's file has; -1").due("lines(0)", 0).due("lines(2)", 0);
        r.refused("lines(-1)", -1).refused("lines(3)", -1).copy(2, many(20, 1)).due("lines(2)", 0);
        r.due("commit(2)", 1).due("lines(2)", 20).due("lines(1)", 0).committed(2, 1).due("lines(2)", 1);
        r.committed(2).due("lines(2)", 0);
    }

    private static void placesOfAFile(String question, String sentence, int first, int last) {
        Run r = new Run(sentence).refused(question + "(0, 0)", -2).refused(question + "(0, -1)", -2);
        r.committed(0, 4).committed(0, joined(texts(4), many(19, 6)));
        r.due(question + "(0, 0)", first).due(question + "(0, 19)", last).refused(question + "(0, 20)", -2);
        r.refused(question + "(0, -1)", -2).refused(question + "(0, 2147483647)", -2);
        r.refused(question + "(0, -2147483648)", -2).refused(question + "(3, 0)", -1).refused(question + "(-1, 99)", -1);
        r.committed(0, 4).due(question + "(0, 0)", first).refused(question + "(0, 1)", -2);
        // A place of the copy, or of another room, is none of the file.
        r.copy(0, 4, 5).refused(question + "(0, 1)", -2).refused(question + "(1, 0)", -2).copy(0);
        r.due(question + "(0, 0)", first).due("commit(0)", 1).refused(question + "(0, 0)", -2);
    }

    private static void placesOfACopy() {
        Run r = new Run("The text at a place of a room's copy; room: -1; there is no such place: -2");
        r.refused("text(0, 0)", -2).refused("text(0, -1)", -2).copy(0, joined(texts(0), many(18, 5), texts(9)));
        r.due("text(0, 0)", 0).due("text(0, 19)", 9).refused("text(0, 20)", -2).refused("text(0, -1)", -2);
        r.refused("text(0, 2147483647)", -2).refused("text(0, -2147483648)", -2);
        r.refused("text(3, 0)", -1).refused("text(-1, 99)", -1).refused("text(1, 0)", -2);
        r.due("commit(0)", 1).due("delete(0, 0)", 0).refused("text(0, 19)", -2).due("text(0, 18)", 9);
        r.copy(0).refused("text(0, 0)", -2);
    }

    private static void having() {
        Run r = new Run("1 if a room has a change, else 0; -1; -2").refused("has(0, 0)", -2).refused("has(3, 0)", -1);
        r.committed(0, 1).row("has", 0, 1).row("has", 1, 0).due("pull(1, 0, 0)", 1).row("has", 1, 1);
        r.committed(1, 1, 2).row("has", 0, 1, 0).row("has", 1, 1, 1).row("has", 2, 0, 0);
        r.refused("has(1, -1)", -2).refused("has(1, 2)", -2).refused("has(-1, 2)", -1).refused("has(3, -1)", -1);
        r.refused("has(1, 32)", -2).refused("has(1, 2147483647)", -2).refused("has(1, -2147483648)", -2);
        r.due("uncommit(1, 1)", 1).row("has", 1, 1, 0).due("uncommit(1, 0)", 0).row("has", 1, 0, 0);
    }

    private static void needing() {
        Run r = new Run("one of the two is no change: -2").refused("needs(0, 0)", -2).committed(0, 1).committed(0, 1, 2);
        r.due("needs(1, 0)", 1).due("needs(0, 1)", 0).due("needs(0, 0)", 0).due("needs(1, 1)", 0);
        for (int no : new int[] {-1, 2, 16, 31, 32, 33, Integer.MIN_VALUE, Integer.MAX_VALUE}) {
            r.refused("needs(0, " + no + ")", -2).refused("needs(1, " + no + ")", -2);
            r.refused("needs(" + no + ", 0)", -2).refused("needs(" + no + ", " + no + ")", -2);
        }
        // A change that no room has still needs what it needed.
        r.due("uncommit(0, 1)", 1).due("uncommit(0, 0)", 0).due("needs(1, 0)", 1);
    }

    private static void weighing() {
        Run r = new Run("How many lines a change took and put, together; no change: -2").refused("weight(0)", -2);
        r.committed(0, 1).due("weight(0)", 1).committed(0).due("weight(1)", 1).committed(0, many(20, 1));
        r.due("weight(2)", 20).committed(0, many(20, 2)).due("weight(3)", 40).committed(0).due("weight(4)", 20);
        for (int no : new int[] {-1, 5, 16, Integer.MIN_VALUE, Integer.MAX_VALUE}) {
            r.refused("weight(" + no + ")", -2);
        }
        r.due("uncommit(0, 4)", 20).due("weight(4)", 20);
    }

    private static void canPulling() {
        String sentence = "1 if pull(room, from, change) would not be refused, else 0";
        Run r = lived(sentence);
        int[] numbers = {-1, 0, 1, 2, 3};
        int[] changes = {-1, 0, 1, 2, 3, 4, 5, Integer.MIN_VALUE, Integer.MAX_VALUE};
        for (int reverted = -1; reverted < 3; reverted++) {
            if (reverted >= 0) {
                r.make("revert(" + reverted + ")");
            }
            for (int room : numbers) {
                for (int from : numbers) {
                    for (int change : changes) {
                        canPull(r, room, from, change);
                    }
                }
            }
        }
        // Refused with -6 and with -7, and one line less.
        Run s = twoRooms(sentence, 1, 2).committed(0, 1, 3, 2).committed(1, 1, 4, 2).refused("canPull(1, 0, 1)", 0);
        s.refused("pull(1, 0, 1)", -6);
        Run t = twoRooms(sentence, 1, 2).committed(0, joined(texts(1, 2), many(9, 3)));
        t.committed(1, joined(many(10, 4), texts(1, 2))).refused("canPull(1, 0, 1)", 0).refused("pull(1, 0, 1)", -7);
        t.due("delete(1, 0)", 4).refused("canPull(1, 0, 1)", 0).due("commit(1)", 1).due("canPull(1, 0, 1)", 1);
        t.due("pull(1, 0, 1)", 1).due("lines(1)", 20).refused("canPull(1, 0, 1)", 0);
    }

    private static void canPull(Run r, int room, int from, int change) {
        String arguments = "(" + room + ", " + from + ", " + change + ")";
        int pulled = answer(after(r.made), "pull" + arguments);
        int can = answer(after(r.made), "canPull" + arguments);
        r.hold("canPull" + arguments, "" + can, pulled < 0 ? "0" : "1");
    }

    private static void comparing() {
        String sentence = "1 if two rooms have the same changes and their files are the same, line by line .. -1";
        Run r = new Run(sentence).due("compare(0, 2)", 1).refused("compare(0, 3)", -1).refused("compare(-1, 0)", -1);
        r.refused("compare(3, 3)", -1).refused("compare(-1, -1)", -1).refused("compare(2, -1)", -1);
        r.committed(0, 1, 2).due("compare(0, 1)", 4).due("compare(0, 0)", 1).due("pull(1, 0, 0)", 1);
        r.due("compare(0, 1)", 1).due("compare(1, 0)", 1).due("insert(1, 0, 9)", 3).due("compare(0, 1)", 1);
        r.due("commit(1)", 1).due("compare(0, 1)", 4).due("uncommit(1, 1)", 2).due("compare(0, 1)", 1);
        // Only the files: a line put and taken again.
        r.due("revert(1)", 2).committed(1, 1, 3, 2).committed(1, 1, 2).due("compare(0, 1)", 3).due("compare(1, 0)", 3);
        // Only the files, both empty.
        r.committed(0).due("compare(0, 2)", 3).due("compare(2, 0)", 3);
        // Neither, though the texts are the same; neither, with one file the beginning or the end of the other.
        Run s = new Run(sentence).committed(0, 1, 2).committed(1, 1, 2).due("compare(0, 1)", 4);
        s.due("pull(2, 0, 0)", 1).committed(2, 1, 2, 3).due("compare(0, 2)", 4).due("compare(2, 0)", 4);
        s.committed(2, 2, 3).due("compare(0, 2)", 4).due("compare(2, 0)", 4);
        // The same changes, made in another order.
        Run u = twoRooms(sentence, 1, 2).committed(0, 3, 1, 2).committed(1, 1, 2, 4).due("compare(0, 1)", 4);
        u.due("pull(0, 1, 2)", 1).due("compare(0, 1)", 4).due("pull(1, 0, 1)", 1).due("compare(0, 1)", 1);
        // Full files that differ in the first or in the last line alone.
        for (int place = 0; place < 20; place += 19) {
            int[] full = {0, 1, 2, 3, 4, 5, 6, 7, 8, 9, 9, 8, 7, 6, 5, 4, 3, 2, 1, 0};
            Run t = twoRooms(sentence, full).due("compare(0, 1)", 1).due("delete(0, " + place + ")", 0);
            t.due("insert(0, " + place + ", 2)", 20).due("commit(0)", 1).due("compare(0, 1)", 4);
        }
    }

    // No run of calls leads to the answer 2: a change swaps the neighbours in its run before it for those in
    // its run after it, so which lines are neighbours in a file follows from its room's changes, whatever
    // the order in which they came and went. The test therefore gives a room another one's changes itself.
    private static void onlyTheChangesAreTheSame() {
        Run r = twoRooms("2 if only the changes are the same", 1, 2).due("pull(2, 0, 0)", 1);
        r.committed(0, 1, 3, 2).committed(1, 1, 2, 4).due("compare(0, 1)", 4).due("compare(0, 2)", 4);
        int[] roomChanges = arrayIn(r.x, "roomChanges");
        roomChanges[1] = roomChanges[0];
        r.due("compare(0, 1)", 2).due("compare(1, 0)", 2).due("compare(0, 2)", 4).due("compare(1, 1)", 1);
        roomChanges[2] = roomChanges[0];
        r.due("compare(0, 2)", 2).due("compare(2, 0)", 2).due("compare(2, 1)", 2).due("compare(2, 2)", 1);
    }

    private static int[] arrayIn(ChangeRooms x, String name) {
        try {
            Field field = ChangeRooms.class.getDeclaredField(name);
            field.setAccessible(true);
            return (int[]) field.get(x);
        } catch (ReflectiveOperationException e) {
            throw new IllegalStateException("the class holds no " + name + " any more: " + e);
        }
    }

    private static void unrecording() {
        Run r = new Run("How many lines .. and texts .. would be in no pair if it were recorded now; -1");
        r.due("unrecorded(0)", 0).refused("unrecorded(3)", -1).refused("unrecorded(-1)", -1);
        r.copy(0, many(20, 1)).due("unrecorded(0)", 20).due("commit(0)", 1).due("unrecorded(0)", 0);
        r.copy(0).due("unrecorded(0)", 20).copy(0, many(20, 2)).due("unrecorded(0)", 40).due("unrecorded(1)", 0);
        r.copy(0, many(19, 1)).due("unrecorded(0)", 1).due("insert(0, 0, 3)", 20).due("unrecorded(0)", 2);
        // It tells also what could not be recorded.
        r.committed(1, many(20, 4)).committed(2, many(20, 5)).refused("commit(0)", -4).due("unrecorded(0)", 2);
    }

    private static void terms() {
        roomsAre0To2();
        atMost20Lines();
        atMost20Texts();
        textIs0To9();
        aLineIsItself();
        atFirstAllEmpty();
        perhapsNone();
        theBeginningAsEdge();
        theEndAsEdge();
        bothEndsAsEdges();
        numberedOverAllRooms();
        atMost16Changes();
        atMost60Lines();
        theSixtiethLineIsNoEnd();
        membersDirectlyBehindEachOther();
        allMatchings();
        fullMatchings();
        beforeBetweenBehind();
        theGreatestNumber();
        neighboursInItsRunAfterIt();
        ifThereIsSuchAChange();
        allNeighboursInItsRun();
        onlyLesserNumbers();
        roomThenChange();
        questionsChangeNothing();
        after512Calls();
    }

    private static void callsThatChangeSomething() {
        newObject();
        insertPlace();
        insertText();
        insertInto20();
        insertOrder();
        deletePlace();
        reverting();
        commitNothing();
        moreThan16Changes();
        moreThan60Lines();
        commitOrder();
        uncommitOfNoChange();
        uncommitWhatTheRoomHasNot();
        uncommitWhatDoesNotStand();
        uncommitWhatIsNeeded();
        uncommitTo21Lines();
        uncommitOrder();
        theCopyStays();
        pullBetweenNoRooms();
        pullOfNoChange();
        pullWhatFromHasNot();
        pullWhatRoomHas();
        pullBesideAnotherCopy();
        pullBesideAnotherCopyOrder();
        pullWhatDoesNotStand();
        pullTo21Lines();
        whicheverComesFirst();
        pullAnswers();
    }

    private static void questions() {
        countingChanges();
        countingLines();
        placesOfAFile("line", "The text of the line at a place of a room's file; .. no such place: -2", 4, 6);
        placesOfAFile("source", "The change that put the line at a place of a room's file; .. no such place: -2", 0, 1);
        placesOfACopy();
        having();
        needing();
        weighing();
        canPulling();
        comparing();
        onlyTheChangesAreTheSame();
        unrecording();
    }

    public static void main(String[] args) {
        terms();
        callsThatChangeSomething();
        questions();
        System.out.println(wrong == 0 ? "all answers are as due" : wrong + " answers are not as due");
        if (wrong != 0) {
            System.exit(1);
        }
    }
}
