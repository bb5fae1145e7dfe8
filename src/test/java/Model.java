import java.nio.charset.StandardCharsets;
import java.util.ArrayDeque;
import java.util.ArrayList;
import java.util.Arrays;
import java.util.HashSet;
import java.util.List;
import java.util.Set;
import java.util.function.ToIntFunction;

/**
 * What the document says, in its slowest and most literal form: nothing is kept that can be found
 * again, every search tries all there is. ModelTest holds the program against it.
 */
final class Model {
    static final int NONE = -1;

    static final class Fault extends RuntimeException {
        private static final long serialVersionUID = 1;
        final int kind;
        final int place;

        Fault(int kind, int place) {
            this.kind = kind;
            this.place = place;
        }
    }

    record Env(int delay, int level, int lane, int stress, int drift, int time) {
    }

    static final class Lab {
        int aspect = 1;
        int hold = 1;
        int lines;
        final List<int[]> lanes = new ArrayList<>();
        final List<Integer> patterns = new ArrayList<>();
        ToIntFunction<Env> passes;
        ToIntFunction<Env> edge;
        ToIntFunction<Env> drifts;
    }

    record Snap(int[] points, int time, int pattern) {
    }

    record Image(Lab lab, Snap snap) {
    }

    private final List<Byte> tape = new ArrayList<>();
    private Lab lab = new Lab();
    private int[] points = new int[0];
    private int time;
    private int pattern = NONE;
    private int faultKind;
    private int faultPlace = NONE;
    private final ArrayDeque<Snap> past = new ArrayDeque<>();
    private final long[][] trays = new long[4][];
    private final int[] sorts = new int[4];
    private final Image[] images = new Image[2];

    // ---- reading

    private static final class Parser {
        record Token(String text, int place) {
        }

        private final List<Token> tokens = new ArrayList<>();
        private final int length;
        private int i;
        private String law;

        Parser(String text) {
            length = text.length();
            int p = 0;
            while (p < length) {
                int from = p;
                char c = text.charAt(p);
                if (c == ' ' || c == '\n') {
                    p++;
                    continue;
                }
                if (c >= 'a' && c <= 'z') {
                    while (p < length && text.charAt(p) >= 'a' && text.charAt(p) <= 'z') p++;
                } else if (c >= '0' && c <= '9') {
                    while (p < length && text.charAt(p) >= '0' && text.charAt(p) <= '9') p++;
                } else {
                    p++;
                }
                tokens.add(new Token(text.substring(from, p), from));
            }
            tokens.add(new Token("", length));
        }

        private String look() {
            Token t = tokens.get(i);
            if (!t.text.isEmpty() && !t.text.matches("[a-z]+|[0-9]{1,3}|[;:+*()\\[\\]=<>-]")) throw new Fault(1, t.place);
            return t.text;
        }

        private Fault wrong(int kind) {
            look();
            return new Fault(kind, tokens.get(i).place);
        }

        private void take(String... words) {
            for (String w : words) {
                if (!look().equals(w)) throw wrong(2);
                i++;
            }
        }

        private int number(int least, int most) {
            if (!look().matches("[0-9]+")) throw wrong(2);
            int v = Integer.parseInt(look());
            if (v < least || v > most) throw wrong(3);
            i++;
            return v;
        }

        Lab lab() {
            Lab lab = new Lab();
            take("lab", "aspect");
            lab.aspect = number(1, 9);
            take("hold");
            lab.hold = number(1, 9);
            take(";");
            lab.lines = 1;
            while (!look().isEmpty()) {
                line(lab);
                take(";");
                lab.lines++;
            }
            return lab;
        }

        private void line(Lab lab) {
            String word = look();
            switch (word) {
                case "lane" -> {
                    if (lab.lanes.size() == 6) throw wrong(4);
                    int[] v = new int[4];
                    take("lane", "at");
                    v[0] = number(0, 23);
                    take("level");
                    v[1] = number(0, 15);
                    take("wide");
                    v[2] = number(1, 24);
                    take("high");
                    v[3] = number(1, 16);
                    lab.lanes.add(v);
                }
                case "pattern" -> {
                    if (lab.patterns.size() == 4) throw wrong(4);
                    i++;
                    lab.patterns.add(number(0, 9));
                }
                case "passes", "edge", "drifts" -> {
                    law = word;
                    i++;
                    take(":");
                    if (word.equals("passes")) lab.passes = truth(0);
                    else if (word.equals("edge")) lab.edge = truth(0);
                    else lab.drifts = sum(0);
                }
                default -> throw wrong(2);
            }
        }

        private void open(int depth) {
            if (depth == 6) throw wrong(4);
            i++;
        }

        private ToIntFunction<Env> truth(int depth) {
            ToIntFunction<Env> a = both(depth);
            while (look().equals("or")) {
                i++;
                ToIntFunction<Env> x = a;
                ToIntFunction<Env> y = both(depth);
                a = e -> x.applyAsInt(e) | y.applyAsInt(e);
            }
            return a;
        }

        private ToIntFunction<Env> both(int depth) {
            ToIntFunction<Env> a = unit(depth);
            while (look().equals("and")) {
                i++;
                ToIntFunction<Env> x = a;
                ToIntFunction<Env> y = unit(depth);
                a = e -> x.applyAsInt(e) & y.applyAsInt(e);
            }
            return a;
        }

        private ToIntFunction<Env> unit(int depth) {
            if (look().equals("not")) {
                open(depth);
                ToIntFunction<Env> x = unit(depth + 1);
                return e -> x.applyAsInt(e) == 1 ? 0 : 1;
            }
            if (look().equals("[")) {
                open(depth);
                ToIntFunction<Env> x = truth(depth + 1);
                take("]");
                return x;
            }
            ToIntFunction<Env> x = sum(depth);
            String op = look();
            if (!List.of("=", "<", ">").contains(op)) throw wrong(2);
            i++;
            ToIntFunction<Env> y = sum(depth);
            return e -> {
                int c = Integer.compare(x.applyAsInt(e), y.applyAsInt(e));
                return c == (op.equals("=") ? 0 : op.equals("<") ? -1 : 1) ? 1 : 0;
            };
        }

        private static int keep(long v) {
            return (int) Math.max(-1000000L, Math.min(1000000L, v));
        }

        private ToIntFunction<Env> sum(int depth) {
            ToIntFunction<Env> a = term(depth);
            while (look().equals("+") || look().equals("-")) {
                long sign = look().equals("+") ? 1 : -1;
                i++;
                ToIntFunction<Env> x = a;
                ToIntFunction<Env> y = term(depth);
                a = e -> keep(x.applyAsInt(e) + sign * y.applyAsInt(e));
            }
            return a;
        }

        private ToIntFunction<Env> term(int depth) {
            ToIntFunction<Env> a = atom(depth);
            while (look().equals("*")) {
                i++;
                ToIntFunction<Env> x = a;
                ToIntFunction<Env> y = atom(depth);
                a = e -> keep((long) x.applyAsInt(e) * y.applyAsInt(e));
            }
            return a;
        }

        private ToIntFunction<Env> atom(int depth) {
            String word = look();
            if (word.matches("[0-9]+")) {
                i++;
                int v = Integer.parseInt(word);
                return e -> v;
            }
            if (word.equals("(")) {
                open(depth);
                ToIntFunction<Env> x = sum(depth + 1);
                take(")");
                return x;
            }
            if (word.equals("if")) {
                open(depth);
                ToIntFunction<Env> c = truth(depth + 1);
                take("then");
                ToIntFunction<Env> x = sum(depth + 1);
                take("else");
                ToIntFunction<Env> y = sum(depth + 1);
                take("end");
                return e -> c.applyAsInt(e) == 1 ? x.applyAsInt(e) : y.applyAsInt(e);
            }
            List<String> known = law.equals("passes") ? List.of("delay", "level", "lane", "stress", "drift")
                    : law.equals("edge") ? List.of("delay", "lane", "drift") : List.of("time");
            if (!known.contains(word)) throw wrong(2);
            i++;
            return switch (word) {
                case "delay" -> Env::delay;
                case "level" -> Env::level;
                case "lane" -> Env::lane;
                case "stress" -> Env::stress;
                case "drift" -> Env::drift;
                default -> Env::time;
            };
        }
    }

    // ---- where a lane passes

    private int driftAt(int t) {
        if (lab.drifts == null) return 0;
        return Math.max(-15, Math.min(15, lab.drifts.applyAsInt(new Env(0, 0, 0, 0, 0, t % 100))));
    }

    private int stressNow() {
        return pattern == NONE ? 0 : lab.patterns.get(pattern);
    }

    private boolean passesBy(int l, int delay, int level, int stress, int drift) {
        if (lab.passes != null) return lab.passes.applyAsInt(new Env(delay, level, l, stress, drift, 0)) == 1;
        int[] v = lab.lanes.get(l);
        int w = v[2] - stress;
        if (w < 1) return false;
        return Math.abs(delay - v[0] - drift) * v[3] + Math.abs(level - v[1]) * w < w * v[3];
    }

    private boolean passesNow(int l, int delay, int level) {
        return passesBy(l, delay, level, stressNow(), driftAt(time));
    }

    private boolean ok(int l) {
        return passesNow(l, points[l] % 24, points[l] / 24);
    }

    private boolean[] mapOf(int l) {
        return mapBy(l, stressNow(), driftAt(time));
    }

    private boolean[] mapBy(int l, int stress, int drift) {
        boolean[] map = new boolean[384];
        for (int c = 0; c < 384; c++) map[c] = passesBy(l, c % 24, c / 24, stress, drift);
        return map;
    }

    private static int size(boolean[] map) {
        int n = 0;
        for (boolean b : map) n += b ? 1 : 0;
        return n;
    }

    private boolean risenAt(int l, int delay) {
        int drift = driftAt(time);
        if (lab.edge != null) return lab.edge.applyAsInt(new Env(delay, 0, l, 0, drift, 0)) == 1;
        return delay >= lab.lanes.get(l)[0] + drift;
    }

    private int edgeOf(int l) {
        for (int d = 1; d <= 23; d++) {
            boolean good = !risenAt(l, d - 1);
            for (int k = d; k < d + lab.hold; k++) good &= k <= 23 && risenAt(l, k);
            if (good) return d;
        }
        return NONE;
    }

    /** size, left, right, low, high, or null. */
    private static int[] rectangleOf(boolean[] map) {
        int[] best = null;
        for (int low = 0; low < 16; low++)
            for (int high = low; high < 16; high++)
                for (int left = 0; left < 24; left++)
                    for (int right = left; right < 24; right++) {
                        if (best != null && (right - left + 1) * (high - low + 1) <= best[0]) continue;
                        boolean all = true;
                        for (int v = low; v <= high && all; v++)
                            for (int d = left; d <= right && all; d++) all = map[v * 24 + d];
                        if (all) best = new int[] {(right - left + 1) * (high - low + 1), left, right, low, high};
                    }
        return best;
    }

    private static int middleOf(int[] r) {
        return (r[3] + r[4]) / 2 * 24 + (r[1] + r[2]) / 2;
    }

    private int[] ellipseOf(boolean[] map) {
        int[] best = null;
        for (int c = 0; c < 384; c++) {
            if (!map[c]) continue;
            int least = Integer.MAX_VALUE;
            for (int v = -1; v <= 16; v++)
                for (int d = -1; d <= 24; d++) {
                    boolean inside = v >= 0 && v < 16 && d >= 0 && d < 24;
                    if (inside && map[v * 24 + d]) continue;
                    int dd = d - c % 24;
                    int dv = v - c / 24;
                    least = Math.min(least, dd * dd + lab.aspect * dv * dv);
                }
            if (best == null || least - 1 > best[0]) best = new int[] {least - 1, c};
        }
        return best;
    }

    private List<Integer> eyesOf(int l) {
        boolean[] map = mapOf(l);
        List<Integer> sizes = new ArrayList<>();
        for (int c = 0; c < 384; c++) if (map[c]) sizes.add(flood(map, c % 24, c / 24));
        return sizes;
    }

    private static int flood(boolean[] map, int d, int v) {
        if (d < 0 || d > 23 || v < 0 || v > 15 || !map[v * 24 + d]) return 0;
        map[v * 24 + d] = false;
        return 1 + flood(map, d - 1, v) + flood(map, d + 1, v) + flood(map, d, v - 1) + flood(map, d, v + 1);
    }

    // ---- deeds

    private Snap snap() {
        return new Snap(points.clone(), time, pattern);
    }

    private void back(Snap s) {
        points = s.points.clone();
        time = s.time;
        pattern = s.pattern;
    }

    private void did(Snap s) {
        past.push(s);
        if (past.size() > 10) past.removeLast();
    }

    private boolean noLane(int l) {
        return l < 0 || l >= lab.lanes.size();
    }

    private int why(long v) {
        if (v == 0) {
            time++;
            return 0;
        }
        if (v == 1) {
            time++;
            for (int l = 0; l < points.length; l++) followOne(l);
            return 0;
        }
        if (v >= 10 && v <= 14) return whyPattern((int) v - 11);
        if (v >= 100 && v <= 199) return whyTrain((int) (v - 100) / 10, (int) (v % 10));
        if (v >= 10000 && v <= 15999) return whyPlace((int) (v - 10000) / 1000, (int) ((v - 10000) % 1000));
        return 1;
    }

    private void followOne(int l) {
        if (!ok(l)) return;
        int v = points[l] / 24;
        int d = points[l] % 24;
        int left = d;
        int right = d;
        while (left > 0 && passesNow(l, left - 1, v)) left--;
        while (right < 23 && passesNow(l, right + 1, v)) right++;
        points[l] += Integer.signum((left + right) / 2 - d);
    }

    private int whyPattern(int p) {
        if (p < -1 || p >= lab.patterns.size()) return 1;
        pattern = p;
        return 0;
    }

    private int whyPlace(int l, int cell) {
        if (noLane(l) || cell < 0 || cell > 383) return 1;
        points[l] = cell;
        return 0;
    }

    private int whyTrain(int l, int how) {
        if (noLane(l) || how < 0 || how > 2) return 1;
        if (how == 2) {
            int d = edgeOf(l);
            if (d == NONE) return 2;
            points[l] = points[l] / 24 * 24 + d;
            return 0;
        }
        boolean[] map = mapOf(l);
        if (size(map) == 0) return 2;
        points[l] = how == 0 ? middleOf(rectangleOf(map)) : ellipseOf(map)[1];
        return 0;
    }

    private int passing() {
        int bits = 0;
        for (int l = 0; l < points.length; l++) if (ok(l)) bits |= 1 << l;
        return bits;
    }

    // ---- the face

    long call(String name, long... a) {
        int x = a.length > 0 ? (int) a[0] : 0;
        int y = a.length > 1 ? (int) a[1] : 0;
        int z = a.length > 2 ? (int) a[2] : 0;
        return switch (name) {
            case "feed" -> feed(a);
            case "lab" -> readLab(x);
            case "fault" -> x == 0 ? faultKind : x == 1 ? faultPlace : NONE;
            case "lane" -> laneTold(x, y);
            case "stress" -> x < 0 || x >= lab.patterns.size() ? -2 : lab.patterns.get(x);
            case "drift" -> x < 0 || x > 9999 ? -99000003 : driftAt(x);
            case "passes" -> noLane(x) || y < 0 || y > 383 ? -2 : passesNow(x, y % 24, y / 24) ? 1 : 0;
            case "row" -> rowBits(x, y);
            case "risen" -> risenBits(x);
            case "place", "train", "ticks", "follow", "pattern" -> oneDeed(name, x, y);
            case "undo" -> undo(x);
            case "judge" -> judge(x, y);
            case "perform" -> perform(x);
            case "day" -> day(x, y);
            case "area" -> noLane(x) ? -2 : size(mapOf(x));
            case "eyes" -> noLane(x) ? -2 : eyesOf(x).size();
            case "greatest" -> noLane(x) ? -2 : eyesOf(x).stream().mapToInt(v -> v).max().orElse(0);
            case "rectangle" -> rectangle(x, y);
            case "ellipse" -> ellipse(x, y);
            case "margin" -> margin(x, y);
            case "edge" -> noLane(x) ? -2 : edgeOf(x);
            case "lag" -> lag(x);
            case "bus" -> bus(x);
            case "harshest" -> harshest(x);
            case "tell" -> tell(x, y);
            case "later", "holds", "follows", "at" -> going(name, x, y);
            case "steps", "way" -> stepping(name, x, y);
            case "ways" -> noLane(x) ? -2 : y < 0 || y > 20 ? -3 : ways(x, y);
            case "drifts", "attempt" -> seen(name, x, y);
            case "chance" -> noLane(x) || z < 0 || z > 1 ? -2 : y < 0 || y > 6 ? -3 : lowest(lots(x, y), y, z);
            case "mean" -> mean(x, y);
            case "numbers" -> numbers(x, y, z);
            case "write" -> write(x, y, a[2]);
            case "lists" -> lists(x, y);
            case "image" -> image(x);
            case "restore" -> restore(x);
            case "count" -> count(x);
            default -> throw new IllegalStateException(name);
        };
    }

    private int feed(long[] a) {
        if (tape.size() + 20 > 900) return -5;
        for (long v : a) for (int k = 3; k >= 0; k--) tape.add((byte) (v >> 8 * k));
        return tape.size();
    }

    private int readLab(int n) {
        if (n < 0 || n > tape.size()) return -3;
        byte[] bytes = new byte[n];
        for (int i = 0; i < n; i++) bytes[i] = tape.get(i);
        tape.clear();
        try {
            Lab told = new Parser(new String(bytes, StandardCharsets.ISO_8859_1)).lab();
            faultKind = 0;
            faultPlace = NONE;
            lab = told;
            points = new int[lab.lanes.size()];
            time = 0;
            pattern = NONE;
            past.clear();
            return lab.lines;
        } catch (Fault f) {
            faultKind = f.kind;
            faultPlace = f.place;
            return -30 - f.kind;
        }
    }

    private int laneTold(int l, int what) {
        if (noLane(l) || what < 0 || what > 5) return -2;
        return what < 4 ? lab.lanes.get(l)[what] : what == 4 ? points[l] : ok(l) ? 1 : 0;
    }

    private int rowBits(int l, int level) {
        if (noLane(l) || level < 0 || level > 15) return -2;
        int bits = 0;
        for (int d = 0; d < 24; d++) if (passesNow(l, d, level)) bits |= 1 << d;
        return bits;
    }

    private int risenBits(int l) {
        if (noLane(l)) return -2;
        int bits = 0;
        for (int d = 0; d < 24; d++) if (risenAt(l, d)) bits |= 1 << d;
        return bits;
    }

    private int oneDeed(String name, int x, int y) {
        Snap s = snap();
        int was = pattern;
        boolean timed = name.equals("ticks") || name.equals("follow");
        if (timed && (x < 1 || x > 99)) return -3;
        int why = 0;
        switch (name) {
            case "place" -> why = whyPlace(x, y);
            case "train" -> why = whyTrain(x, y);
            case "pattern" -> why = whyPattern(x);
            default -> {
                for (int i = 0; i < x; i++) why(name.equals("ticks") ? 0 : 1);
            }
        }
        if (why != 0) return -10 - why;
        did(s);
        if (timed) return Integer.bitCount(passing());
        return name.equals("pattern") ? was : name.equals("train") ? points[x] : ok(x) ? 1 : 0;
    }

    private int undo(int n) {
        if (n < 1 || n > 10 || n > past.size()) return -3;
        for (int i = 0; i < n; i++) back(past.pop());
        return past.size();
    }

    private int judge(int t, int what) {
        if (t < 0 || t > 3 || what < 0 || what > 3) return -2;
        if (trays[t] == null) return -6;
        Snap s = snap();
        int bad = NONE;
        int why = 0;
        for (int i = 0; i < trays[t].length && why == 0; i++) {
            why = why(trays[t][i]);
            if (why != 0) bad = i;
        }
        int answer = what == 0 ? bad : what == 1 ? why : what == 2 ? Arrays.stream(points).sum() : passing();
        back(s);
        return answer;
    }

    private int perform(int t) {
        if (t < 0 || t > 3) return -2;
        if (trays[t] == null) return -6;
        Snap s = snap();
        int done = 0;
        while (done < trays[t].length && why(trays[t][done]) == 0) done++;
        if (done > 0) did(s);
        return done;
    }

    private int seed;

    private int draw() {
        seed = 1103515245 * seed + 12345;
        return seed >>> 16;
    }

    private int day(int first, int times) {
        if (times < 1 || times > 40) return -3;
        seed = first;
        Snap s = snap();
        int done = 0;
        for (int i = 0; i < times; i++) {
            long deed = 0;
            switch (draw() % 6) {
                case 0 -> deed = 0;
                case 1, 2 -> deed = 1;
                case 3 -> deed = 10 + draw() % 5;
                case 4 -> {
                    deed = 100 + 10 * (draw() % 6);
                    deed += draw() % 3;
                }
                default -> {
                    deed = 10000 + 1000 * (draw() % 6);
                    deed += draw() % 384;
                }
            }
            if (why(deed) == 0) done++;
        }
        if (done > 0) did(s);
        return done;
    }

    private int rectangle(int l, int what) {
        if (noLane(l) || what < 0 || what > 5) return -2;
        int[] r = rectangleOf(mapOf(l));
        return r == null ? NONE : what < 5 ? r[what] : middleOf(r);
    }

    private int ellipse(int l, int what) {
        if (noLane(l) || what < 0 || what > 1) return -2;
        int[] e = ellipseOf(mapOf(l));
        return e == null ? NONE : e[what];
    }

    private int margin(int l, int side) {
        if (noLane(l) || side < 0 || side > 3) return -2;
        if (!ok(l)) return -5;
        int n = 0;
        int d = points[l] % 24;
        int v = points[l] / 24;
        while (true) {
            d += side == 0 ? -1 : side == 1 ? 1 : 0;
            v += side == 2 ? -1 : side == 3 ? 1 : 0;
            if (d < 0 || d > 23 || v < 0 || v > 15 || !passesNow(l, d, v)) return n;
            n++;
        }
    }

    private int lag(int l) {
        if (noLane(l)) return -2;
        int[] delays = new int[points.length];
        for (int k = 0; k < points.length; k++) {
            int[] r = rectangleOf(mapOf(k));
            if (r == null) return NONE;
            delays[k] = middleOf(r) % 24;
        }
        return Arrays.stream(delays).max().getAsInt() - delays[l];
    }

    private int bus(int what) {
        if (what < 0 || what > 2) return -2;
        if (points.length == 0) return NONE;
        int bits = 0;
        for (int d = 0; d < 24; d++) {
            boolean all = true;
            for (int l = 0; l < points.length; l++) all &= passesNow(l, d, points[l] / 24);
            if (all) bits |= 1 << d;
        }
        int most = 0;
        int first = NONE;
        for (int d = 0; d < 24; d++) {
            int n = 0;
            while (d + n < 24 && (bits >> d + n & 1) == 1) n++;
            if (n > most) {
                most = n;
                first = d;
            }
        }
        return what == 0 ? bits : what == 1 ? most : first;
    }

    private int harshest(int l) {
        if (noLane(l)) return -2;
        int best = NONE;
        int fewest = 999;
        for (int p = 0; p < lab.patterns.size(); p++) {
            int n = size(mapBy(l, lab.patterns.get(p), driftAt(time)));
            if (n < fewest) {
                fewest = n;
                best = p;
            }
        }
        return best;
    }

    private boolean[] byAll(int l, int set) {
        boolean[] all = new boolean[384];
        Arrays.fill(all, true);
        for (int p = 0; p < lab.patterns.size(); p++) {
            if ((set >> p & 1) == 0) continue;
            boolean[] map = mapBy(l, lab.patterns.get(p), driftAt(time));
            for (int c = 0; c < 384; c++) all[c] &= map[c];
        }
        return all;
    }

    private int tell(int l, int what) {
        if (noLane(l) || what < 0 || what > 1) return -2;
        int n = lab.patterns.size();
        if (n == 0) return NONE;
        boolean[] all = byAll(l, (1 << n) - 1);
        for (int many = 0; many <= n; many++)
            for (int set = 0; set < 1 << n; set++)
                if (Integer.bitCount(set) == many && Arrays.equals(byAll(l, set), all)) return what == 0 ? many : set;
        throw new IllegalStateException();
    }

    private int going(String name, int l, int n) {
        if (noLane(l)) return -2;
        if ((name.equals("later") || name.equals("at")) && (n < 0 || n > 999)) return -3;
        Snap s = snap();
        boolean following = name.equals("follows") || name.equals("at");
        int answer = NONE;
        for (int i = 0; i <= 999; i++) {
            if (i > 0) why(following ? 1 : 0);
            if (name.equals("later") && i == n) answer = ok(l) ? 1 : 0;
            else if (name.equals("at") && i == n) answer = points[l];
            else if ((name.equals("holds") || name.equals("follows")) && !ok(l)) answer = i;
            else continue;
            break;
        }
        back(s);
        return answer;
    }

    private static int stepped(int cell, int step) {
        int d = cell % 24 + (step == 0 ? -1 : step == 1 ? 1 : 0);
        int v = cell / 24 + (step == 2 ? -1 : step == 3 ? 1 : 0);
        return d < 0 || d > 23 || v < 0 || v > 15 ? NONE : v * 24 + d;
    }

    /** The first shortest row by breadth: rows are tried in the order of their numbers. */
    private int stepping(String name, int l, int i) {
        if (noLane(l)) return -2;
        if (name.equals("way") && i < 0) return -3;
        boolean[] map = mapOf(l);
        record Walk(int cell, String row) {
        }
        ArrayDeque<Walk> open = new ArrayDeque<>();
        Set<Integer> known = new HashSet<>();
        open.add(new Walk(points[l], ""));
        known.add(points[l]);
        while (!open.isEmpty()) {
            Walk w = open.poll();
            if (map[w.cell]) {
                if (name.equals("steps")) return w.row.length();
                return i < w.row.length() ? w.row.charAt(i) - '0' : NONE;
            }
            for (int step = 0; step < 4; step++) {
                int next = stepped(w.cell, step);
                if (next != NONE && known.add(next)) open.add(new Walk(next, w.row + step));
            }
        }
        return NONE;
    }

    private long ways(int l, int n) {
        long[] w = new long[384];
        w[points[l]] = 1;
        for (int i = 0; i < n; i++) {
            long[] next = new long[384];
            for (int c = 0; c < 384; c++)
                for (int step = 0; step < 4; step++)
                    if (stepped(c, step) != NONE) next[stepped(c, step)] += w[c];
            w = next;
        }
        boolean[] map = mapOf(l);
        long sum = 0;
        for (int c = 0; c < 384; c++) sum += map[c] ? w[c] : 0;
        return sum;
    }

    private int seen(String name, int t, int l) {
        if (t < 0 || t > 3 || noLane(l)) return -2;
        if (trays[t] == null) return -6;
        if (trays[t].length < 1 || trays[t].length > 8) return -4;
        for (long v : trays[t]) if (v < 0 || v > 767) return -3;
        List<Integer> able = new ArrayList<>();
        int bits = 0;
        for (int drift = -15; drift <= 15; drift++) {
            boolean so = true;
            for (long v : trays[t]) {
                int c = (int) (v / 2);
                so &= passesBy(l, c % 24, c / 24, stressNow(), drift) == (v % 2 == 1);
            }
            if (so) {
                able.add(drift);
                bits |= 1 << drift + 15;
            }
        }
        if (name.equals("drifts")) return bits;
        int best = NONE;
        int least = 99;
        for (int c = 0; c < 384 && !able.isEmpty(); c++) {
            int in = 0;
            for (int drift : able) in += passesBy(l, c % 24, c / 24, stressNow(), drift) ? 1 : 0;
            int greater = Math.max(in, able.size() - in);
            if (greater < least) {
                least = greater;
                best = c;
            }
        }
        return best;
    }

    /** All rows of n lots, one by one. */
    private int lots(int l, int n) {
        return lotsFrom(l, points[l] % 24, n);
    }

    private int lotsFrom(int l, int d, int n) {
        if (n == 0) return passesNow(l, d, points[l] / 24) ? 1 : 0;
        return lotsFrom(l, Math.max(d - 1, 0), n - 1) + lotsFrom(l, Math.min(d + 1, 23), n - 1)
                + 8 * lotsFrom(l, d, n - 1);
    }

    private static int lowest(int above, int n, int what) {
        int below = 1;
        for (int i = 0; i < n; i++) below *= 10;
        int g = java.math.BigInteger.valueOf(above).gcd(java.math.BigInteger.valueOf(below)).intValue();
        return what == 0 ? above / g : below / g;
    }

    private int mean(int n, int what) {
        if (what < 0 || what > 1) return -2;
        if (n < 0 || n > 6) return -3;
        int sum = 0;
        for (int l = 0; l < points.length; l++) sum += lots(l, n);
        return lowest(sum, n, what);
    }

    private int numbers(int t, int sort, int n) {
        if (t < 0 || t > 3 || sort < 0 || sort > 3) return -2;
        if (n < 0 || n > 40) return -3;
        trays[t] = new long[n];
        sorts[t] = sort;
        return 0;
    }

    private static long cut(int sort, long v) {
        return sort == 0 ? (byte) v : sort == 1 ? (short) v : sort == 2 ? (int) v : v;
    }

    private long write(int t, int i, long v) {
        if (t < 0 || t > 3) return -2;
        if (trays[t] == null) return -6;
        if (i < 0 || i >= trays[t].length) return -7;
        return trays[t][i] = cut(sorts[t], v);
    }

    private int lists(int t, int l) {
        if (t < 0 || t > 3 || noLane(l)) return -2;
        if (trays[t] == null) return -6;
        int n = 0;
        for (int i = 0; i < trays[t].length; i++) {
            long v = trays[t][i];
            if (v < 0 || v > 383) continue;
            trays[t][i] = cut(sorts[t], 2 * v + (passesNow(l, (int) v % 24, (int) v / 24) ? 1 : 0));
            n++;
        }
        return n;
    }

    private int image(int i) {
        if (i < 0 || i > 1) return -2;
        images[i] = new Image(lab, snap());
        return 0;
    }

    private int restore(int i) {
        if (i < 0 || i > 1) return -2;
        if (images[i] == null) return -5;
        lab = images[i].lab;
        back(images[i].snap);
        past.clear();
        return 0;
    }

    private int count(int what) {
        return switch (what) {
            case 0 -> points.length;
            case 1 -> lab.patterns.size();
            case 2 -> lab.aspect;
            case 3 -> lab.hold;
            case 4 -> time;
            case 5 -> pattern;
            case 6 -> passing();
            case 7 -> past.size();
            case 8 -> tape.size();
            case 9 -> lab.lines;
            default -> NONE;
        };
    }
}
