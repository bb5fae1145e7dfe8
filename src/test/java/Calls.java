import java.nio.charset.StandardCharsets;

/** Calls of the program by name, and texts put on its tape. */
final class Calls {
    private Calls() {
    }

    static long call(EyeTrainer x, String name, long... a) {
        int p = a.length > 0 ? (int) a[0] : 0;
        int q = a.length > 1 ? (int) a[1] : 0;
        int r = a.length > 2 ? (int) a[2] : 0;
        return switch (name) {
            case "feed" -> x.feed(p, q, r, (int) a[3], (int) a[4]);
            case "lab" -> x.lab(p);
            case "fault" -> x.fault(p);
            case "lane" -> x.lane(p, q);
            case "stress" -> x.stress(p);
            case "drift" -> x.drift(p);
            case "passes" -> x.passes(p, q);
            case "row" -> x.row(p, q);
            case "risen" -> x.risen(p);
            case "place" -> x.place(p, q);
            case "train" -> x.train(p, q);
            case "ticks" -> x.ticks(p);
            case "follow" -> x.follow(p);
            case "pattern" -> x.pattern(p);
            case "undo" -> x.undo(p);
            case "judge" -> x.judge(p, q);
            case "perform" -> x.perform(p);
            case "day" -> x.day(p, q);
            case "area" -> x.area(p);
            case "eyes" -> x.eyes(p);
            case "greatest" -> x.greatest(p);
            case "rectangle" -> x.rectangle(p, q);
            case "ellipse" -> x.ellipse(p, q);
            case "margin" -> x.margin(p, q);
            case "edge" -> x.edge(p);
            case "lag" -> x.lag(p);
            case "bus" -> x.bus(p);
            case "harshest" -> x.harshest(p);
            case "tell" -> x.tell(p, q);
            case "later" -> x.later(p, q);
            case "holds" -> x.holds(p);
            case "follows" -> x.follows(p);
            case "at" -> x.at(p, q);
            case "steps" -> x.steps(p);
            case "way" -> x.way(p, q);
            case "ways" -> x.ways(p, q);
            case "drifts" -> x.drifts(p, q);
            case "attempt" -> x.attempt(p, q);
            case "chance" -> x.chance(p, q, r);
            case "mean" -> x.mean(p, q);
            case "numbers" -> x.numbers(p, q, r);
            case "write" -> x.write(p, q, a[2]);
            case "lists" -> x.lists(p, q);
            case "image" -> x.image(p);
            case "restore" -> x.restore(p);
            case "count" -> x.count(p);
            default -> throw new IllegalStateException(name);
        };
    }

    /** The ints that feed() takes, five for each twenty bytes, blanks behind the text. */
    static long[][] feeds(String text) {
        byte[] bytes = text.getBytes(StandardCharsets.ISO_8859_1);
        long[][] feeds = new long[(bytes.length + 19) / 20][5];
        for (int i = 0; i < feeds.length * 20; i++) {
            int b = i < bytes.length ? bytes[i] & 255 : ' ';
            feeds[i / 20][i % 20 / 4] = (int) (feeds[i / 20][i % 20 / 4] << 8 | b);
        }
        return feeds;
    }

    /** A text is read: what lab() answers. */
    static int tell(EyeTrainer x, String text) {
        for (long[] f : feeds(text)) {
            call(x, "feed", f);
        }
        return x.lab(text.length());
    }
}
