import java.util.ArrayList;
import java.util.Arrays;
import java.util.List;
import java.util.Random;

/** Runs of calls by lots, the program held against the literal model of the document. */
public final class ModelTest {
    private static final String[] NAMES = {"fault", "lane", "stress", "drift", "passes", "row", "risen", "place",
        "train", "ticks", "follow", "pattern", "undo", "judge", "perform", "day", "area", "eyes", "greatest",
        "rectangle", "ellipse", "margin", "edge", "lag", "bus", "harshest", "tell", "later", "holds", "follows", "at",
        "steps", "way", "ways", "drifts", "attempt", "chance", "mean", "numbers", "write", "lists", "image", "restore",
        "count"};

    private final Random lots;
    private final List<String> told = new ArrayList<>();
    private EyeTrainer program;
    private Model model;
    private int calls;

    private ModelTest(long seed) {
        lots = new Random(seed);
    }

    public static void main(String[] args) {
        int runs = args.length > 0 ? Integer.parseInt(args[0]) : 150;
        long first = args.length > 1 ? Long.parseLong(args[1]) : 1;
        for (long seed = first; seed < first + runs; seed++) {
            if (!new ModelTest(seed).run()) {
                System.exit(1);
            }
        }
        System.out.println(runs + " runs are as the model's");
    }

    private boolean run() {
        program = new EyeTrainer();
        model = new Model();
        calls = 0;
        try {
            while (calls < 430) {
                if (lots.nextInt(4) > 0 && !tellLab()) return false;
                int many = lots.nextInt(60);
                for (int i = 0; i < many; i++) if (!randomCall()) return false;
            }
        } catch (RuntimeException e) {
            told.forEach(System.out::println);
            e.printStackTrace(System.out);
            return false;
        }
        return true;
    }

    private boolean same(String name, long... a) {
        calls++;
        if (calls > 512) return true;
        told.add(name + Arrays.toString(a));
        long want = model.call(name, a);
        long got = Calls.call(program, name, a);
        if (got == want) return true;
        told.forEach(System.out::println);
        System.out.println("answered " + got + ", due is " + want);
        return false;
    }

    private boolean tellLab() {
        String text = lab();
        told.add(text);
        for (long[] f : Calls.feeds(text)) if (!same("feed", f)) return false;
        return same("lab", lots.nextInt(30) == 0 ? few(1000) : text.length()) && same("fault", 0) && same("fault", 1)
                && same("count", 9);
    }

    private int upTo(int n) {
        return lots.nextInt(n + 1);
    }

    /** Mostly within 0 to n, at times just outside. */
    private int few(int n) {
        return lots.nextInt(12) == 0 ? lots.nextBoolean() ? -1 : n + 1 : upTo(n);
    }

    private boolean randomCall() {
        String name = NAMES[lots.nextInt(NAMES.length)];
        int l = lots.nextInt(15) == 0 ? few(6) : lots.nextInt(3);
        int t = few(3);
        switch (name) {
            case "fault": return same(name, few(1));
            case "lane": return same(name, l, few(5));
            case "stress": return same(name, few(3));
            case "drift": return same(name, few(9999));
            case "passes": case "place": return same(name, l, few(383));
            case "row": return same(name, l, few(15));
            case "train": return same(name, l, few(2));
            case "ticks": case "follow": return same(name, lots.nextBoolean() ? few(99) : upTo(9));
            case "pattern": return same(name, upTo(5) - 1);
            case "undo": return same(name, lots.nextBoolean() ? few(10) : upTo(3));
            case "judge": case "perform": return fillDeeds(t) && same(name, t, few(3));
            case "day": return same(name, lots.nextInt(), few(40));
            case "rectangle": return same(name, l, few(5));
            case "ellipse": case "tell": return same(name, l, few(1));
            case "margin": return same(name, l, few(3));
            case "bus": return same(name, few(2));
            case "later": case "at": return same(name, l, lots.nextBoolean() ? few(999) : upTo(120));
            case "way": return same(name, l, few(15));
            case "ways": return same(name, l, few(20));
            case "drifts": case "attempt": return fillSeen(t, l) && same(name, t, l);
            case "chance": return same(name, l, few(6), few(1));
            case "mean": return same(name, few(6), few(1));
            case "numbers": return same(name, t, few(3), few(40));
            case "write": return same(name, t, few(40), number());
            case "lists": return same(name, t, l) && (t < 0 || t > 3 || same("judge", t, 2));
            case "image": case "restore": return same(name, few(1));
            case "count": return same(name, few(9));
            default: return same(name, l);
        }
    }

    private long number() {
        return switch (lots.nextInt(5)) {
            case 0 -> lots.nextLong();
            case 1 -> lots.nextInt(800);
            case 2 -> lots.nextInt(70000) - 35000;
            case 3 -> deed();
            default -> lots.nextInt(300) - 20;
        };
    }

    private long deed() {
        return switch (lots.nextInt(7)) {
            case 0 -> 0;
            case 1 -> 1;
            case 2 -> 10 + lots.nextInt(lots.nextInt(4) == 0 ? 6 : 2);
            case 3, 4 -> 100 + 10 * lots.nextInt(2) + lots.nextInt(3);
            case 5 -> 10000 + 1000 * lots.nextInt(2) + lots.nextInt(384);
            default -> lots.nextInt(4) > 0 ? 1 : lots.nextInt(17000) - 5;
        };
    }

    private boolean fillDeeds(int t) {
        if (lots.nextInt(4) == 0) return true;
        int n = upTo(6);
        if (!same("numbers", t, 1 + lots.nextInt(3), n)) return false;
        for (int i = 0; i < n; i++) if (!same("write", t, i, deed())) return false;
        return true;
    }

    private boolean fillSeen(int t, int l) {
        if (lots.nextInt(6) == 0) return true;
        int n = few(8) + 1;
        if (!same("numbers", t, 1 + lots.nextInt(3), n)) return false;
        boolean truly = lots.nextInt(4) > 0;
        for (int i = 0; i < n; i++) {
            long v = truly ? upTo(383) : lots.nextInt(100) == 0 ? -1 : few(767);
            if (!same("write", t, i, v)) return false;
        }
        return !truly || same("lists", t, l);
    }

    // ---- labs by lots

    private String lab() {
        StringBuilder text = new StringBuilder();
        text.append("lab aspect ").append(1 + upTo(8)).append(" hold ").append(1 + upTo(lots.nextBoolean() ? 2 : 8))
                .append(";");
        int lanes = lots.nextInt(20) == 0 ? upTo(7) : 1 + upTo(2);
        for (int i = 0; i < lanes; i++) {
            text.append("lane at ").append(upTo(23)).append(" level ").append(upTo(15)).append(" wide ")
                    .append(1 + upTo(23)).append(" high ").append(1 + upTo(15)).append(blank(";"));
        }
        int patterns = lots.nextInt(20) == 0 ? upTo(5) : upTo(3);
        for (int i = 0; i < patterns; i++) text.append("pattern ").append(upTo(9)).append(";");
        if (lots.nextBoolean()) text.append("drifts:").append(sum("time", 2)).append(blank(";"));
        if (lots.nextInt(3) == 0) text.append("edge : ").append(truth("delay lane drift", 3)).append(";");
        int laws = lots.nextInt(3);
        for (int i = 0; i < laws; i++) {
            text.append("passes :").append(truth("delay level lane stress drift delay level", 3)).append(";");
        }
        if (text.length() > 900) return "lab aspect 2 hold 1;lane at 3 level 4 wide 5 high 6;";
        return lots.nextInt(4) == 0 ? spoiled(text) : text.toString();
    }

    private String spoiled(StringBuilder text) {
        int many = 1 + upTo(1);
        for (int i = 0; i < many; i++) {
            int at = lots.nextInt(text.length());
            switch (lots.nextInt(5)) {
                case 0 -> text.deleteCharAt(at);
                case 1 -> text.setCharAt(at, (char) lots.nextInt(256));
                case 2 -> text.setLength(Math.max(1, at));
                case 3 -> text.setCharAt(at, ";:+-*()[]=<> \n059az".charAt(lots.nextInt(19)));
                default -> {
                    int space = text.indexOf(" ", at);
                    if (space > 0) text.insert(space, new String[] {" not", " [", " (", " if", " 9", "9", " lab", " end",
                        " time", " level"}[lots.nextInt(10)]);
                }
            }
        }
        if (text.length() > 900) text.setLength(900);
        return text.toString();
    }

    private String blank(String sign) {
        return new String[] {sign, " " + sign, sign + "\n", " " + sign + " "}[lots.nextInt(4)];
    }

    private String truth(String words, int depth) {
        int n = lots.nextInt(6);
        if (depth > 0 && n == 0) return truth(words, depth - 1) + " or " + truth(words, depth - 1);
        if (depth > 0 && n == 1) return truth(words, depth - 1) + " and " + truth(words, depth - 1);
        if (depth > 0 && n == 2) return "not " + truth(words, depth - 1);
        if (depth > 0 && n == 3) return "[" + truth(words, depth - 1) + "]";
        return sum(words, depth) + blank("=<>".substring(n % 3, n % 3 + 1)) + sum(words, depth - 1);
    }

    private String sum(String words, int depth) {
        String[] all = words.split(" ");
        int n = lots.nextInt(9);
        if (depth > 0 && n == 0) return sum(words, depth - 1) + blank("+") + sum(words, depth - 1);
        if (depth > 0 && n == 1) return sum(words, depth - 1) + blank("-") + sum(words, depth - 1);
        if (depth > 0 && n == 2) return sum(words, depth - 1) + blank("*") + sum(words, depth - 1);
        if (depth > 0 && n == 3) return "(" + sum(words, depth - 1) + blank(")");
        if (depth > 0 && n == 4) {
            return "if " + truth(words, depth - 1) + " then " + sum(words, depth - 1) + " else " + sum(words, depth - 1)
                    + " end";
        }
        return n < 7 ? all[lots.nextInt(all.length)] : String.valueOf(upTo(lots.nextInt(9) == 0 ? 999 : 24));
    }
}
