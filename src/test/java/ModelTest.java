import java.util.ArrayList;
import java.util.Arrays;
import java.util.HashMap;
import java.util.List;
import java.util.Map;
import java.util.TreeMap;
import java.util.TreeSet;

// Many runs of calls on fresh objects; each answer is held against a model that is written from the
// document with lists and objects. The runs are the same each time: the numbers come from a fixed seed.
public final class ModelTest {

    static final class Line {
        final int text;
        final int source;

        Line(int text, int source) {
            this.text = text;
            this.source = source;
        }
    }

    static final class Change {
        Line first;
        Line last;
        List<Line> took = new ArrayList<>();
        List<Line> put = new ArrayList<>();
        TreeSet<Integer> needs = new TreeSet<>();

        List<Line> run(List<Line> middle) {
            List<Line> run = new ArrayList<>();
            run.add(first);
            run.addAll(middle);
            run.add(last);
            return run;
        }
    }

    static final class Room {
        List<Line> file = new ArrayList<>();
        List<Integer> copy = new ArrayList<>();
        TreeSet<Integer> changes = new TreeSet<>();
    }

    static final class Model {
        static final Line BEGINNING = new Line(-1, -1);
        static final Line END = new Line(-1, -1);
        final Room[] rooms = {new Room(), new Room(), new Room()};
        final List<Change> changes = new ArrayList<>();

        boolean noRoom(int room) {
            return room < 0 || room > 2;
        }

        boolean noChange(int change) {
            return change < 0 || change >= changes.size();
        }

        static List<Integer> texts(List<Line> file) {
            List<Integer> texts = new ArrayList<>();
            for (Line line : file) {
                texts.add(line.text);
            }
            return texts;
        }

        // The matching as the document's list i1, j1, i2, j2, ..
        List<Integer> matching(Room room) {
            return best(texts(room.file), room.copy, 0, 0, new HashMap<>());
        }

        private static List<Integer> best(
                List<Integer> file, List<Integer> copy, int i, int j, Map<Integer, List<Integer>> known) {
            int key = i * 100 + j;
            if (known.containsKey(key)) {
                return known.get(key);
            }
            List<Integer> found = new ArrayList<>();
            if (i < file.size() && j < copy.size()) {
                List<List<Integer>> candidates = new ArrayList<>();
                candidates.add(best(file, copy, i + 1, j, known));
                candidates.add(best(file, copy, i, j + 1, known));
                if (file.get(i).equals(copy.get(j))) {
                    List<Integer> with = new ArrayList<>(List.of(i, j));
                    with.addAll(best(file, copy, i + 1, j + 1, known));
                    candidates.add(with);
                }
                for (List<Integer> candidate : candidates) {
                    if (isBetter(candidate, found)) {
                        found = candidate;
                    }
                }
            }
            known.put(key, found);
            return found;
        }

        private static boolean isBetter(List<Integer> a, List<Integer> b) {
            if (a.size() != b.size()) {
                return a.size() > b.size();
            }
            for (int k = 0; k < a.size(); k++) {
                if (!a.get(k).equals(b.get(k))) {
                    return a.get(k) < b.get(k);
                }
            }
            return false;
        }

        int insert(int room, int place, int text) {
            if (noRoom(room)) {
                return -1;
            }
            List<Integer> copy = rooms[room].copy;
            if (place < 0 || place > copy.size()) {
                return -2;
            }
            if (text < 0 || text > 9) {
                return -3;
            }
            if (copy.size() == 20) {
                return -4;
            }
            copy.add(place, text);
            return copy.size();
        }

        int delete(int room, int place) {
            if (noRoom(room)) {
                return -1;
            }
            List<Integer> copy = rooms[room].copy;
            return place < 0 || place >= copy.size() ? -2 : copy.remove(place);
        }

        int revert(int room) {
            if (noRoom(room)) {
                return -1;
            }
            rooms[room].copy = texts(rooms[room].file);
            return rooms[room].copy.size();
        }

        int commit(int room) {
            if (noRoom(room)) {
                return -1;
            }
            Room r = rooms[room];
            List<Integer> pairs = new ArrayList<>(matching(r));
            pairs.add(r.file.size());
            pairs.add(r.copy.size());
            List<Change> recorded = new ArrayList<>();
            List<Line> file = new ArrayList<>();
            int i = 0;
            int j = 0;
            for (int k = 0; k < pairs.size(); k += 2) {
                int nextI = pairs.get(k);
                int nextJ = pairs.get(k + 1);
                if (nextI > i || nextJ > j) {
                    Change change = new Change();
                    change.first = i == 0 ? BEGINNING : r.file.get(i - 1);
                    change.last = nextI == r.file.size() ? END : r.file.get(nextI);
                    change.took.addAll(r.file.subList(i, nextI));
                    for (int text : r.copy.subList(j, nextJ)) {
                        change.put.add(new Line(text, changes.size() + recorded.size()));
                    }
                    recorded.add(change);
                    file.addAll(change.put);
                }
                if (nextI < r.file.size()) {
                    file.add(r.file.get(nextI));
                }
                i = nextI + 1;
                j = nextJ + 1;
            }
            if (changes.size() + recorded.size() > 16) {
                return -3;
            }
            int put = 0;
            for (Change change : changes) {
                put += change.put.size();
            }
            for (Change change : recorded) {
                put += change.put.size();
            }
            if (put > 60) {
                return -4;
            }
            for (Change change : recorded) {
                findNeeds(change, r.changes);
            }
            for (Change change : recorded) {
                r.changes.add(changes.size());
                changes.add(change);
            }
            r.file = file;
            return recorded.size();
        }

        private void findNeeds(Change change, TreeSet<Integer> had) {
            List<Line> before = change.run(change.took);
            for (int k = 0; k + 1 < before.size(); k++) {
                for (int d : had.descendingSet()) {
                    Change other = changes.get(d);
                    if (findRun(before.subList(k, k + 2), other.run(other.put)) >= 0) {
                        change.needs.add(d);
                        change.needs.addAll(other.needs);
                        break;
                    }
                }
            }
        }

        private static int findRun(List<Line> run, List<Line> row) {
            for (int at = 0; at + run.size() <= row.size(); at++) {
                boolean stands = true;
                for (int k = 0; k < run.size(); k++) {
                    stands &= row.get(at + k) == run.get(k);
                }
                if (stands) {
                    return at;
                }
            }
            return -1;
        }

        private static List<Line> whole(List<Line> file) {
            List<Line> row = new ArrayList<>();
            row.add(BEGINNING);
            row.addAll(file);
            row.add(END);
            return row;
        }

        private static List<Line> replaced(List<Line> file, int at, int out, List<Line> in) {
            List<Line> row = new ArrayList<>(file.subList(0, at));
            row.addAll(in);
            row.addAll(file.subList(at + out, file.size()));
            return row;
        }

        int uncommit(int room, int number) {
            if (noRoom(room)) {
                return -1;
            }
            if (noChange(number)) {
                return -2;
            }
            Room r = rooms[room];
            if (!r.changes.contains(number)) {
                return -3;
            }
            Change change = changes.get(number);
            int at = findRun(change.run(change.put), whole(r.file));
            if (at < 0) {
                return -4;
            }
            for (int other : r.changes) {
                if (changes.get(other).needs.contains(number)) {
                    return -4;
                }
            }
            List<Line> file = replaced(r.file, at, change.put.size(), change.took);
            if (file.size() > 20) {
                return -5;
            }
            r.file = file;
            r.changes.remove(number);
            return file.size();
        }

        int pull(int room, int from, int number, boolean really) {
            if (noRoom(room) || noRoom(from)) {
                return -1;
            }
            if (noChange(number)) {
                return -2;
            }
            Room r = rooms[room];
            if (!rooms[from].changes.contains(number)) {
                return -3;
            }
            if (r.changes.contains(number)) {
                return -4;
            }
            if (!r.copy.equals(texts(r.file))) {
                return -5;
            }
            TreeSet<Integer> wanted = new TreeSet<>(changes.get(number).needs);
            wanted.add(number);
            wanted.removeAll(r.changes);
            List<Line> file = r.file;
            for (int c : wanted) {
                Change change = changes.get(c);
                int at = findRun(change.run(change.took), whole(file));
                if (at < 0) {
                    return -6;
                }
                file = replaced(file, at, change.took.size(), change.put);
                if (file.size() > 20) {
                    return -7;
                }
            }
            if (really) {
                r.file = file;
                r.copy = texts(file);
                r.changes.addAll(wanted);
            }
            return wanted.size();
        }

        int at(int room, int place, char what) {
            if (noRoom(room)) {
                return -1;
            }
            Room r = rooms[room];
            int size = what == 't' ? r.copy.size() : r.file.size();
            if (place < 0 || place >= size) {
                return -2;
            }
            if (what == 't') {
                return r.copy.get(place);
            }
            return what == 'l' ? r.file.get(place).text : r.file.get(place).source;
        }

        int has(int room, int change) {
            if (noRoom(room)) {
                return -1;
            }
            if (noChange(change)) {
                return -2;
            }
            return rooms[room].changes.contains(change) ? 1 : 0;
        }

        int needs(int change, int other) {
            if (noChange(change) || noChange(other)) {
                return -2;
            }
            return changes.get(change).needs.contains(other) ? 1 : 0;
        }

        int weight(int change) {
            return noChange(change) ? -2 : changes.get(change).took.size() + changes.get(change).put.size();
        }

        int compare(int room, int other) {
            if (noRoom(room) || noRoom(other)) {
                return -1;
            }
            boolean changesSame = rooms[room].changes.equals(rooms[other].changes);
            boolean filesSame = rooms[room].file.equals(rooms[other].file);
            return changesSame ? (filesSame ? 1 : 2) : (filesSame ? 3 : 4);
        }

        int unrecorded(int room) {
            if (noRoom(room)) {
                return -1;
            }
            return rooms[room].file.size() + rooms[room].copy.size() - matching(rooms[room]).size();
        }
    }

    private static final int RUNS = 6000;
    private static final int CALLS = 512;
    private static final String[] NAMES = {"insert", "delete", "revert", "commit", "uncommit", "pull", "changes",
        "lines", "line", "source", "text", "has", "needs", "weight", "canPull", "compare", "unrecorded"};

    private final Map<String, Integer> seen = new TreeMap<>();
    private int wrong = 0;

    // The state of one run.
    private int run;
    private long seed;
    private ChangeRooms x;
    private Model m;
    private List<String> log;

    private int below(int bound) {
        seed = seed * 6364136223846793005L + 1442695040888963407L;
        return (int) ((seed >>> 33) % bound);
    }

    private int strange() {
        int[] numbers = {-1, -2, 3, 9, 10, 16, 20, 21, 31, 32, 60, 64, Integer.MIN_VALUE, Integer.MAX_VALUE};
        return numbers[below(numbers.length)];
    }

    private int room() {
        return below(40) == 0 ? strange() : below(3);
    }

    private int place(int size) {
        return below(30) == 0 ? strange() : below(size + 1);
    }

    private int text() {
        return below(60) == 0 ? strange() : below(1 + run % 10);
    }

    private int change() {
        return below(20) == 0 ? strange() : below(m.changes.size() + 1);
    }

    private int changeOf(int room) {
        List<Integer> changes = new ArrayList<>(m.rooms[room].changes);
        return changes.isEmpty() || below(10) == 0 ? change() : changes.get(below(changes.size()));
    }

    private void step() {
        int room = below(3);
        int from = below(3);
        int dice = below(100);
        if (dice < 30) {
            anyCall();
        } else if (dice < 55) {
            edit(room);
            if (below(3) > 0) {
                call("commit", room, 0, 0);
            }
        } else if (dice < 85) {
            if (below(8) > 0) {
                call("revert", room, 0, 0);
            }
            int change = changeOf(from);
            call("canPull", room, from, change);
            call("pull", room, from, change);
        } else {
            call("uncommit", room, changeOf(room), 0);
        }
    }

    /** Some runs put or take many texts at once, so that the files get long. */
    private void edit(int room) {
        int most = 1 + run % 13;
        for (int spots = 1 + below(2); spots > 0; spots--) {
            int size = m.rooms[room].copy.size();
            int place = below(size + 1);
            boolean puts = below(20) >= size || below(4) == 0;
            for (int count = 1 + below(most); count > 0; count--) {
                if (puts) {
                    call("insert", room, place, text());
                } else {
                    call("delete", room, place, 0);
                }
            }
        }
    }

    private void anyCall() {
        String name = NAMES[below(NAMES.length)];
        int first = room();
        int lines = m.noRoom(first) ? 0 : m.rooms[first].file.size();
        int texts = m.noRoom(first) ? 0 : m.rooms[first].copy.size();
        switch (name) {
            case "insert":
                call(name, first, place(texts), text());
                break;
            case "delete":
            case "text":
                call(name, first, place(texts), 0);
                break;
            case "line":
            case "source":
                call(name, first, place(lines), 0);
                break;
            case "needs":
            case "weight":
                call(name, change(), change(), 0);
                break;
            case "has":
            case "uncommit":
                call(name, first, change(), 0);
                break;
            default:
                call(name, first, room(), change());
                break;
        }
    }

    private void call(String name, int a, int b, int c) {
        if (log.size() == CALLS || wrong > 0) {
            return;
        }
        int got = program(name, a, b, c);
        int want = model(name, a, b, c);
        String call = name + "(" + a + ", " + b + ", " + c + ")";
        log.add(call + " " + got);
        seen.merge(name + " " + kind(name, want), 1, Integer::sum);
        if (got != want) {
            wrong++;
            System.out.println("run " + run + ": " + call + " answered " + got + ", due is " + want
                    + ", after " + log);
        }
    }

    private int program(String name, int a, int b, int c) {
        switch (name) {
            case "insert": return x.insert(a, b, c);
            case "delete": return x.delete(a, b);
            case "revert": return x.revert(a);
            case "commit": return x.commit(a);
            case "uncommit": return x.uncommit(a, b);
            case "pull": return x.pull(a, b, c);
            case "changes": return x.changes();
            case "lines": return x.lines(a);
            case "line": return x.line(a, b);
            case "source": return x.source(a, b);
            case "text": return x.text(a, b);
            case "has": return x.has(a, b);
            case "needs": return x.needs(a, b);
            case "weight": return x.weight(a);
            case "canPull": return x.canPull(a, b, c);
            case "compare": return x.compare(a, b);
            default: return x.unrecorded(a);
        }
    }

    private int model(String name, int a, int b, int c) {
        switch (name) {
            case "insert": return m.insert(a, b, c);
            case "delete": return m.delete(a, b);
            case "revert": return m.revert(a);
            case "commit": return m.commit(a);
            case "uncommit": return m.uncommit(a, b);
            case "pull": return m.pull(a, b, c, true);
            case "changes": return m.changes.size();
            case "lines": return m.noRoom(a) ? -1 : m.rooms[a].file.size();
            case "line": return m.at(a, b, 'l');
            case "source": return m.at(a, b, 's');
            case "text": return m.at(a, b, 't');
            case "has": return m.has(a, b);
            case "needs": return m.needs(a, b);
            case "weight": return m.weight(a);
            case "canPull": return m.pull(a, b, c, false) < 0 ? 0 : 1;
            case "compare": return m.compare(a, b);
            default: return m.unrecorded(a);
        }
    }

    /** What stands at the end of a run: every file, copy and change of a room, and some needs. */
    private void lookAround() {
        for (int room = 0; room < 3; room++) {
            call("lines", room, 0, 0);
            for (int place = 0; place <= m.rooms[room].file.size(); place++) {
                call("line", room, place, 0);
                call("source", room, place, 0);
            }
            for (int change = 0; change <= m.changes.size(); change++) {
                call("has", room, change, 0);
            }
            call("compare", room, (room + 1) % 3, 0);
        }
        for (int change = 0; change < m.changes.size(); change++) {
            call("weight", change, 0, 0);
            for (int other = 0; other < m.changes.size(); other++) {
                call("needs", change, other, 0);
            }
        }
    }

    private static String kind(String name, int answer) {
        boolean telling = List.of("has", "needs", "canPull", "compare").contains(name);
        return answer < 0 || telling ? "" + answer : answer == 0 ? "0" : "more";
    }

    /** The runs say little if some answer never came up. */
    private void wantAllKinds() {
        String[] all = {
            "insert -1", "insert -2", "insert -3", "insert -4", "insert more",
            "delete -1", "delete -2", "delete 0", "delete more", "revert -1", "revert 0", "revert more",
            "commit -1", "commit -3", "commit -4", "commit 0", "commit more",
            "uncommit -1", "uncommit -2", "uncommit -3", "uncommit -4", "uncommit -5", "uncommit 0", "uncommit more",
            "pull -1", "pull -2", "pull -3", "pull -4", "pull -5", "pull -6", "pull -7", "pull more",
            "changes 0", "changes more", "lines -1", "lines 0", "lines more", "line -1", "line -2", "line more",
            "source -1", "source -2", "source 0", "source more", "text -1", "text -2", "text more",
            "has -1", "has -2", "has 0", "has 1", "needs -2", "needs 0", "needs 1", "weight -2", "weight more",
            "canPull 0", "canPull 1", "compare -1", "compare 1", "compare 3", "compare 4",
            "unrecorded -1", "unrecorded 0", "unrecorded more"};
        for (String kind : all) {
            if (!seen.containsKey(kind)) {
                wrong++;
                System.out.println("no run had the answer " + kind);
            }
        }
    }

    private void runAll() {
        for (run = 0; run < RUNS && wrong == 0; run++) {
            seed = run;
            x = new ChangeRooms();
            m = new Model();
            log = new ArrayList<>();
            int steps = 40 + below(100);
            for (int i = 0; i < steps; i++) {
                step();
            }
            lookAround();
        }
        if (wrong == 0) {
            wantAllKinds();
        }
    }

    public static void main(String[] args) {
        ModelTest test = new ModelTest();
        test.runAll();
        if (Arrays.asList(args).contains("seen")) {
            System.out.println(test.seen);
        }
        System.out.println(test.wrong == 0 ? "all answers are as due" : test.wrong + " answers are not as due");
        if (test.wrong != 0) {
            System.exit(1);
        }
    }
}
