import java.util.ArrayList;
import java.util.Arrays;
import java.util.List;

/**
 * 'Refused calls answer by a code and change nothing', 'Of several that which the call tells first': every call in
 * several states with all its numbers at the edges, just outside and far outside, in all combinations.
 */
public final class RefusedTest {
    /** A call, its numbers by their kinds, and the codes in the order in which the document tells them. */
    private static final String[] CALLS = {
        "feed any any any any any | -5",
        "lab taped | -3",
        "lane lane:-2 0..5:-2 | -2",
        "stress pattern:-2 | -2",
        "drift 0..9999:-99000003 | -99000003",
        "passes lane:-2 0..383:-2 | -2",
        "row lane:-2 0..15:-2 | -2",
        "risen lane:-2 | -2",
        "place lane:-11 0..383:-11 | -11",
        "train lane:-11 0..2:-11 | -11 -12",
        "ticks 1..99:-3 | -3",
        "follow 1..99:-3 | -3",
        "pattern use:-11 | -11",
        "undo undo | -3",
        "judge tray 0..3:-2 | -2 -6",
        "perform tray | -2 -6",
        "day any 1..40:-3 | -3",
        "area lane:-2 | -2",
        "eyes lane:-2 | -2",
        "greatest lane:-2 | -2",
        "rectangle lane:-2 0..5:-2 | -2",
        "ellipse lane:-2 0..1:-2 | -2",
        "margin lane:-2 0..3:-2 | -2 -5",
        "edge lane:-2 | -2",
        "lag lane:-2 | -2",
        "bus 0..2:-2 | -2",
        "harshest lane:-2 | -2",
        "tell lane:-2 0..1:-2 | -2",
        "later lane:-2 0..999:-3 | -2 -3",
        "holds lane:-2 | -2",
        "follows lane:-2 | -2",
        "at lane:-2 0..999:-3 | -2 -3",
        "steps lane:-2 | -2",
        "way lane:-2 0..2147483647:-3 | -2 -3",
        "ways lane:-2 0..20:-3 | -2 -3",
        "drifts seen lane:-2 | -2 -6 -4 -3",
        "attempt seen lane:-2 | -2 -6 -4 -3",
        "chance lane:-2 0..6:-3 0..1:-2 | -2 -3",
        "mean 0..6:-3 0..1:-2 | -2 -3",
        "numbers 0..3:-2 0..3:-2 0..40:-3 | -2 -3",
        "write tray index any | -2 -6 -7",
        "lists tray lane:-2 | -2 -6",
        "image 0..1:-2 | -2",
        "restore made | -2 -5",
    };
    private static final int BATCH = 60;
    private static final int CALLS_MOST = 512;

    private static final Script S = new Script();

    /** What can be told of an object when it has been brought to a state. */
    private static final class State {
        final String name;
        int lanes;
        int patterns;
        int undoable;
        int taped;
        boolean passing = true;
        final int[] sizes = {-1, -1, -1, -1};
        /** TRAYS whose numbers are no CELLS twice and 1. */
        int unseen;
        int images;
        int calls;
        long[] probed;

        State(String name) {
            this.name = name;
        }
    }

    public static void main(String[] args) {
        for (String name : new String[] {"new", "some", "full", "lost"}) {
            State state = new State(name);
            bringTo(state);
            state.probed = probe(state);
            S.due("calls of a run", state.calls + state.probed.length + BATCH <= CALLS_MOST ? 0 : 1, 0);
            for (String call : CALLS) {
                tryAll(state, call);
            }
        }
        S.end("refused calls");
    }

    // ---- states

    private static long call(State state, String call) {
        state.calls++;
        return S.call(call);
    }

    private static void read(State state, String text) {
        state.calls += Calls.feeds(text).length + 1;
        Calls.tell(S.x, text);
    }

    private static void tray(State state, int tray, int sort, long... numbers) {
        call(state, "numbers " + tray + " " + sort + " " + numbers.length);
        for (int i = 0; i < numbers.length; i++) {
            if (numbers[i] != 0) {
                call(state, "write " + tray + " " + i + " " + numbers[i]);
            }
        }
        state.sizes[tray] = numbers.length;
    }

    private static void tape(State state, String text, int length) {
        for (long[] ints : Calls.feeds(text + " ".repeat(length - text.length()))) {
            call(state, "feed " + ints[0] + " " + ints[1] + " " + ints[2] + " " + ints[3] + " " + ints[4]);
        }
        state.taped = length;
    }

    private static void bringTo(State state) {
        S.x = new EyeTrainer();
        state.calls = 0;
        switch (state.name) {
            case "some" -> some(state);
            case "full" -> full(state);
            case "lost" -> lost(state);
            default -> state.taped = 0;
        }
    }

    private static void some(State state) {
        state.lanes = 2;
        state.patterns = 2;
        read(state, "lab aspect 3 hold 2;lane at 8 level 6 wide 4 high 3;lane at 3 level 2 wide 3 high 2;pattern 2;pattern 1;drifts:time;");
        read(state, "lab aspect 0;");
        call(state, "ticks 2");
        call(state, "place 0 154");
        call(state, "image 0");
        state.images = 1;
        call(state, "place 1 53");
        call(state, "pattern 1");
        state.undoable = 4;
        tray(state, 0, 0, 0, 1, 10);
        tray(state, 1, 1, 100, 1, 12, 0, 0, 0, 0, 110);
        long[] many = new long[40];
        many[0] = 10007;
        many[1] = 11009;
        many[39] = 10100;
        tray(state, 2, 3, many);
        tape(state, "lab aspect 4 hold 5;drifts:9;", 40);
    }

    private static void full(State state) {
        state.lanes = 6;
        state.patterns = 4;
        read(state, "lab aspect 9 hold 9;" + "lane at 8 level 6 wide 4 high 3;".repeat(6) + "pattern 2;".repeat(4));
        call(state, "image 1");
        for (int i = 0; i < 7; i++) {
            call(state, "ticks 9");
        }
        call(state, "image 0");
        state.images = 3;
        for (int l = 0; l < 6; l++) {
            call(state, "place " + l + " " + (152 + l % 2));
        }
        call(state, "pattern 3");
        state.undoable = 10;
        tray(state, 0, 2, 100);
        tray(state, 1, 2, 100, 767, 0, 0, 0, 0, 0, 110);
        long[] many = new long[40];
        many[0] = 12;
        many[39] = 127;
        tray(state, 2, 0, many);
        tray(state, 3, 3);
        tape(state, "lab aspect 4 hold 5;drifts:9;", 900);
    }

    /** Nothing passes, no clock rises. */
    private static void lost(State state) {
        state.lanes = 2;
        state.patterns = 1;
        state.passing = false;
        read(state, "lab aspect 9 hold 9;lane at 8 level 6 wide 4 high 3;lane at 8 level 6 wide 4 high 3;pattern 0;passes:1=2;edge:1=2;");
        call(state, "place 1 77");
        state.undoable = 1;
        tray(state, 0, 1, 768, 100);
        tray(state, 1, 3, 0, 0, -1);
        tray(state, 2, 3, 0, 0, 0, 0, 0, 0, 0, 0, 768);
        state.unseen = 7;
        tape(state, "lab aspect 4 hold 5;drifts:9;", 880);
    }

    // ---- what an object tells

    /** The answers of calls by which every change is seen; the object can't be used behind it. */
    private static long[] probe(State state) {
        List<Long> told = new ArrayList<>();
        tellState(told);
        for (int what = 0; what < 3; what++) {
            ask(told, "fault " + what);
            ask(told, "bus " + what);
            ask(told, "stress " + what);
            ask(told, "drift " + 9 * what);
        }
        for (int l = 0; l < Math.min(2, state.lanes); l++) {
            ask(told, "risen " + l);
            for (int level = 0; level < 16; level++) {
                ask(told, "row " + l + " " + level);
            }
        }
        for (int t = 0; t < 4; t++) {
            tellTray(told, t, state.sizes[t]);
        }
        for (int i = 0; i <= state.undoable; i++) {
            ask(told, "undo 1");
            tellState(told);
        }
        for (int i = 0; i < 2; i++) {
            ask(told, "restore " + i);
            ask(told, "drift 7");
            tellState(told);
        }
        ask(told, "lab " + Math.min(state.taped, 29));
        ask(told, "fault 1");
        tellState(told);
        return told.stream().mapToLong(v -> v).toArray();
    }

    private static void ask(List<Long> told, String call) {
        told.add(S.call(call));
    }

    private static void tellState(List<Long> told) {
        ask(told, "count 0");
        long lanes = told.get(told.size() - 1);
        for (int what = 1; what <= 9; what++) {
            ask(told, "count " + what);
        }
        for (int l = 0; l < lanes; l += l == 0 ? 1 : 4) {
            ask(told, "lane " + l + " 4");
        }
    }

    /** The numbers of a TRAY by what they do as DEEDS, cut off one by one; then its sort and size. */
    private static void tellTray(List<Long> told, int tray, int size) {
        for (int cut = size; cut >= 0; cut -= cut == size || cut <= 2 ? 1 : Math.max(1, Math.min(cut - 2, 12))) {
            ask(told, "write " + tray + " " + cut + " 3");
            ask(told, "judge " + tray + " 0");
            ask(told, "judge " + tray + " 2");
        }
        ask(told, "judge " + tray + " 1");
        ask(told, "write " + tray + " 0 1311768467463790320");
    }

    // ---- calls

    private static void tryAll(State state, String line) {
        String[] sides = line.split(" \\| ");
        String[] words = sides[0].split(" ");
        int[] order = Arrays.stream(sides[1].split(" ")).mapToInt(Integer::parseInt).toArray();
        List<long[]> all = new ArrayList<>();
        combine(state, words, new long[words.length - 1], 0, all);
        List<long[]> refused = new ArrayList<>();
        for (long[] a : all) {
            if (dueCode(state, words, a, order) != 0) {
                refused.add(a);
            } else {
                accepted(state, words[0], a, order);
            }
        }
        for (int from = 0; from < refused.size(); from += BATCH) {
            S.says("Refused calls answer by a code: " + words[0] + " in the state " + state.name);
            bringTo(state);
            for (long[] a : refused.subList(from, Math.min(from + BATCH, refused.size()))) {
                S.due(words[0] + Arrays.toString(a), Calls.call(S.x, words[0], a), dueCode(state, words, a, order));
            }
            S.says("and change nothing: " + words[0] + " in the state " + state.name);
            long[] told = probe(state);
            S.due("what is told", Arrays.mismatch(told, state.probed), -1);
        }
    }

    private static void accepted(State state, String name, long[] a, int[] order) {
        S.says("what is within its bounds is not refused: " + name + " in the state " + state.name);
        bringTo(state);
        long answer = Calls.call(S.x, name, a);
        for (int code : order) {
            // a number of a TRAY can be as a code is
            boolean fine = answer != code || name.equals("write") && a[2] == code;
            S.due(name + Arrays.toString(a) + " answered " + answer + ": refused", fine ? 0 : 1, 0);
        }
    }

    private static void combine(State state, String[] words, long[] a, int k, List<long[]> all) {
        if (k == a.length) {
            all.add(a.clone());
            return;
        }
        for (long v : numbersToTry(state, words[k + 1])) {
            a[k] = v;
            combine(state, words, a, k + 1, all);
        }
    }

    private static long[] bounds(State state, String kind) {
        String word = kind.split(":")[0];
        return switch (word) {
            case "lane" -> new long[] {0, state.lanes - 1};
            case "pattern" -> new long[] {0, state.patterns - 1};
            case "use" -> new long[] {-1, state.patterns - 1};
            case "undo" -> new long[] {1, state.undoable};
            case "taped" -> new long[] {0, state.taped};
            case "tray", "seen" -> new long[] {0, 3};
            case "made" -> new long[] {0, 1};
            case "index" -> new long[] {0, 39};
            default -> Arrays.stream(word.split("\\.\\.")).mapToLong(Long::parseLong).toArray();
        };
    }

    private static long[] numbersToTry(State state, String kind) {
        if (kind.equals("any")) {
            return new long[] {Integer.MIN_VALUE, 0, Integer.MAX_VALUE};
        }
        long[] b = bounds(state, kind);
        long[] far = {b[0] - 1, b[0], b[1], b[1] + 1, b[0] - 256, b[1] + 256, b[0] + 65536, b[0] - 65536, Integer.MIN_VALUE,
            Integer.MIN_VALUE + 1, Integer.MAX_VALUE, Integer.MAX_VALUE - 1};
        if (kind.equals("tray") || kind.equals("seen")) {
            far[4] = 1;
            far[5] = 2;
        } else if (kind.equals("index")) {
            far[4] = 2;
            far[5] = 3;
            far[6] = 8;
        }
        return Arrays.stream(far).filter(v -> v == (int) v).distinct().toArray();
    }

    /** Of the codes that a call could tell that which comes first in its order, or 0. */
    private static int dueCode(State state, String[] words, long[] a, int[] order) {
        List<Integer> codes = new ArrayList<>();
        for (int k = 0; k < a.length; k++) {
            codes.add(code(state, words[k + 1], a, k));
        }
        boolean noLane = codes.stream().anyMatch(c -> c != 0);
        if (words[0].equals("train") && !noLane && !state.passing) {
            codes.add(-12);
        } else if (words[0].equals("margin") && !noLane && !state.passing) {
            codes.add(-5);
        } else if (words[0].equals("feed") && state.taped > 880) {
            codes.add(-5);
        }
        for (int code : order) {
            if (codes.contains(code)) {
                return code;
            }
        }
        return 0;
    }

    private static int code(State state, String kind, long[] a, int k) {
        if (kind.equals("any")) {
            return 0;
        }
        long[] b = bounds(state, kind);
        boolean in = a[k] >= b[0] && a[k] <= b[1];
        switch (kind) {
            case "undo":
            case "taped":
                return in ? 0 : -3;
            case "made":
                return !in ? -2 : (state.images >> a[k] & 1) == 0 ? -5 : 0;
            case "tray":
                return !in ? -2 : state.sizes[(int) a[k]] < 0 ? -6 : 0;
            case "seen":
                return !in ? -2 : seenCode(state, (int) a[k]);
            case "index":
                boolean tray = a[0] >= 0 && a[0] <= 3 && state.sizes[(int) a[0]] >= 0;
                return tray && (a[k] < 0 || a[k] >= state.sizes[(int) a[0]]) ? -7 : 0;
            default:
                return in ? 0 : Integer.parseInt(kind.split(":")[1]);
        }
    }

    private static int seenCode(State state, int tray) {
        int size = state.sizes[tray];
        if (size < 0) {
            return -6;
        }
        return size < 1 || size > 8 ? -4 : (state.unseen >> tray & 1) != 0 ? -3 : 0;
    }
}
