import java.util.ArrayList;
import java.util.List;

/**
 * The boundary cases that the document names of TICKS and FOLLOWING, DEEDS, UNDOING, DAYS, TRAYS, IMAGES and counts.
 * Each is told with its sentence.
 */
public final class DeedEdgesTest {
    private static final String HEAD = "lab aspect 1 hold 1;";
    private static final String LANE = "lane at 5 level 5 wide 2 high 2;";
    private static final String FULL = HEAD + LANE.repeat(6) + "pattern 1;pattern 0;pattern 9;pattern 2;drifts:time;";
    private static final String EVERYWHERE = "passes:1=1;";

    private static final Script S = new Script();

    public static void main(String[] args) {
        ticks();
        follow();
        tickFirst();
        followNumbers();
        placesAndWhyNot();
        trainings();
        patterns();
        deedsByNumber();
        farNumbers();
        whatDeedsDo();
        judging();
        performing();
        undoBounds();
        eldestForgotten();
        undoneAsAWhole();
        whatCannotBeUndone();
        days();
        traySizes();
        traysInPlaceOfOthers();
        writes();
        lists();
        images();
        counts();
        the512thCall();
        S.end("the edges of deeds");
    }

    // ---- ticks, following

    private static void ticks() {
        S.says("n TICKS (1 to 99): how many LANES PASS in their POINTS then. -3");
        S.fresh(HEAD + LANE.repeat(6) + "drifts:time;passes:lane<drift;");
        S.run("ticks 0 => -3\nticks -1 => -3\nticks 100 => -3\nticks 1 => 1\ncount 4 => 1\nticks 5 => 6\nticks 93 => 6\ncount 4 => 99\n");
        S.run("ticks 1 => 0\nticks 99 => 6\ncount 4 => 199\nticks 2147483647 => -3\nticks -2147483648 => -3\ncount 4 => 199\n");
        S.says("The TIME: how many TICKS there were");
        S.fresh(HEAD + LANE + "drifts:if time=98 then 7 else 0 end;" + "passes:delay=drift;");
        for (int i = 1; i <= 102; i++) {
            S.x.ticks(99);
            S.due("count 4", 99 * i);
        }
        S.run("count 4 => 10098\nrow 0 0 => 128\nticks 1 => 1\nrow 0 0 => 1\ndrift 98 => 7\n");
    }

    /** From each POINT of each row of DELAYS, and from those next to it. */
    private static void follow() {
        S.says("left and right added, by 2, rounded down, is the aim: its DELAY is 1 nearer to that (at it: it stays). Else it stays");
        for (int left = 0; left < 24; left++) {
            for (int right = left; right < 24; right++) {
                S.fresh(HEAD + LANE + "passes:not delay<" + left + " and not delay>" + right + ";");
                int level = (left + right) % 16;
                int aim = (left + right) / 2;
                for (int delay = 0; delay < 24; delay++) {
                    boolean in = delay >= left && delay <= right;
                    S.x.place(0, 24 * level + delay);
                    S.due("follow 1", in ? 1 : 0);
                    S.due("lane 0 4", 24 * level + (in ? delay + Integer.signum(aim - delay) : delay));
                }
            }
        }
        S.says("of all DELAYS next to one another at that LEVEL in which it PASSES, its own among them");
        S.fresh(HEAD + LANE + "passes:level=3 and[delay<4 or delay=5 or delay>6 and delay<13 or delay>20]or level=4;");
        int[] from = {0, 1, 3, 4, 5, 6, 7, 9, 10, 12, 13, 20, 21, 23};
        int[] to = {1, 1, 2, 4, 5, 6, 8, 9, 9, 11, 13, 20, 22, 22};
        for (int i = 0; i < from.length; i++) {
            S.x.place(0, 72 + from[i]);
            S.x.follow(1);
            S.due("lane 0 4", 72 + to[i]);
        }
    }

    private static void tickFirst() {
        S.says("To FOLLOW: a TICK, then all LANES are FOLLOWED");
        S.fresh(HEAD + LANE.repeat(6) + "drifts:time;passes:not delay<drift and delay<drift+3;");
        for (int l = 0; l < 6; l++) {
            S.x.place(l, 24 * l + 2);
        }
        S.run("follow 1 => 6\n");
        for (int l = 0; l < 6; l++) {
            S.due("lane " + l + " 4", 24 * l + 2);
        }
        S.run("follow 1 => 6\nlane 5 4 => 123\nundo 1 => 7\nlane 5 4 => 122\nplace 0 0 => 0\nfollow 1 => 5\nlane 0 4 => 0\n");
    }

    private static void followNumbers() {
        S.says("n TICKS (1 to 99), all LANES being FOLLOWED behind each: how many PASS then. -3");
        S.fresh(HEAD + LANE + EVERYWHERE);
        S.run("follow 0 => -3\nfollow -1 => -3\nfollow 100 => -3\nfollow 2147483647 => -3\nfollow -2147483648 => -3\ncount 4 => 0\n");
        S.run("follow 1 => 1\nlane 0 4 => 1\nfollow 99 => 1\nlane 0 4 => 11\ncount 4 => 100\nplace 0 23 => 1\nfollow 2 => 1\nlane 0 4 => 21\n");
        // a row of 24 whose aim goes away at the last of 99 TICKS alone
        S.fresh(HEAD + LANE + "drifts:if time=99 then 1 else 0 end;passes:delay=0 or delay<3 and drift=1;");
        S.run("follow 98 => 1\nlane 0 4 => 0\nfollow 1 => 1\nlane 0 4 => 1\nundo 2 => 0\nfollow 99 => 1\nlane 0 4 => 1\nfollow 1 => 0\n");
    }

    // ---- deeds by hand

    private static void placesAndWhyNot() {
        S.says("1 no such LANE, CELL, PATTERN, how: place");
        S.fresh(FULL);
        S.run("place 0 0 => 0\nplace 0 383 => 0\nplace 5 125 => 1\nplace 0 384 => -11\nplace 0 -1 => -11\nplace 6 0 => -11\nplace -1 0 => -11\n");
        S.run("place 6 384 => -11\nplace 0 2147483647 => -11\nplace 0 -2147483648 => -11\nplace 2147483647 0 => -11\nplace -2147483648 0 => -11\n");
        S.run("lane 0 4 => 383\nlane 5 4 => 125\ncount 7 => 3\n");
        S.run("new\nplace 0 0 => -11\nplace -1 0 => -11\ntrain 0 0 => -11\npattern 0 => -11\ncount 7 => 0\n");
    }

    private static void trainings() {
        S.says("2 its MAP has no CELL (how 0, 1), it has no EDGE (2); -11 ahead of -12");
        S.fresh(HEAD + LANE + LANE + "passes:lane=1;edge:lane=0 and delay>22;");
        S.run("train 0 0 => -12\ntrain 0 1 => -12\ntrain 0 2 => 23\ntrain 0 3 => -11\ntrain 0 -1 => -11\ntrain 1 0 => 179\ntrain 1 1 => 175\n");
        S.run("train 1 2 => -12\ntrain 1 3 => -11\ntrain 2 0 => -11\ntrain 2 3 => -11\ntrain -1 0 => -11\ntrain -1 2 => -11\n");
        S.run("train 0 2147483647 => -11\ntrain 0 -2147483648 => -11\nlane 0 4 => 23\nlane 1 4 => 175\ncount 7 => 3\n");
        S.says("LEVELLED (2): its DELAY is its EDGE, its LEVEL stays");
        for (int level = 0; level < 16; level++) {
            S.fresh(HEAD + LANE + "edge:delay>22;");
            S.x.place(0, 24 * level + 7);
            S.due("train 0 2", 24 * level + 23);
            S.due("lane 0 4", 24 * level + 23);
        }
    }

    private static void patterns() {
        S.says("A PATTERN is in use (NONE: none): which one was (NONE). -11");
        S.fresh(FULL);
        S.run("pattern -1 => -1\npattern 0 => -1\npattern 3 => 0\npattern 4 => -11\npattern -2 => -11\npattern 2147483647 => -11\n");
        S.run("pattern -2147483648 => -11\ncount 5 => 3\ncount 7 => 3\npattern -1 => 3\ncount 5 => -1\n");
        S.fresh(HEAD + "pattern 1;");
        S.run("pattern 1 => -11\npattern 0 => -1\npattern -1 => 0\n");
        S.fresh(HEAD);
        S.run("pattern 0 => -11\npattern -1 => -1\ncount 7 => 1\n");
    }

    // ---- deeds by numbers

    private static int why(long v, int lanes, int patterns) {
        if (v == 0 || v == 1) {
            return 0;
        }
        if (v >= 10 && v <= 14) {
            return v - 11 < patterns ? 0 : 1;
        }
        if (v >= 100 && v <= 199) {
            return (v - 100) / 10 < lanes && v % 10 < 3 ? 0 : 1;
        }
        if (v >= 10000 && v <= 15999) {
            return (v - 10000) / 1000 < lanes && (v - 10000) % 1000 < 384 ? 0 : 1;
        }
        return 1;
    }

    private static void deed(long v, int lanes, int patterns) {
        int why = why(v, lanes, patterns);
        S.due("write", S.x.write(0, 0, v), v);
        S.due("judge 0 0 of " + v, S.x.judge(0, 0), why == 0 ? -1 : 0);
        S.due("judge 0 1 of " + v, S.x.judge(0, 1), why);
        S.due("perform 0 of " + v, S.x.perform(0), why == 0 ? 1 : 0);
    }

    private static void deedsByNumber() {
        S.says("DEEDS: 0, 1; 10 to 14; 100 to 199; 10000 to 15999; others: 1");
        for (long v = -300; v <= 17000; v++) {
            if (v % 100 == 0) {
                S.fresh(FULL);
                S.run("numbers 0 3 1 => 0\n");
            }
            deed(v, 6, 4);
        }
        for (int lanes = 0; lanes < 6; lanes++) {
            S.fresh(HEAD + LANE.repeat(lanes) + "pattern 1;".repeat(lanes % 4));
            S.run("numbers 0 3 1 => 0\n");
            for (long v : new long[] {9, 10, 11, 12, 13, 14, 15}) {
                deed(v, lanes, lanes % 4);
            }
            for (int l = 0; l < 7; l++) {
                deed(100 + 10 * l, lanes, lanes % 4);
                deed(102 + 10 * l, lanes, lanes % 4);
                deed(103 + 10 * l, lanes, lanes % 4);
                deed(10000 + 1000 * l, lanes, lanes % 4);
                deed(10383 + 1000 * l, lanes, lanes % 4);
                deed(10384 + 1000 * l, lanes, lanes % 4);
            }
        }
    }

    private static void farNumbers() {
        S.says("DEEDS: others: 1 (numbers of 64 bits)");
        S.fresh(FULL);
        S.run("numbers 0 3 1 => 0\n");
        for (long v : new long[] {0, 1, 10, 100, 10000}) {
            for (long far : new long[] {1L << 32, -1L << 32, 1L << 16, 1L << 63, 1L << 33, 1L << 40}) {
                deed(v + far, 6, 4);
            }
        }
        deed(Long.MAX_VALUE, 6, 4);
        deed(Long.MIN_VALUE, 6, 4);
        deed(Integer.MIN_VALUE, 6, 4);
        deed(Integer.MAX_VALUE, 6, 4);
        S.says("2 its MAP has no CELL (how 0, 1), it has no EDGE (2): as DEEDS");
        S.fresh(HEAD + LANE + "passes:1=2;edge:1=2;");
        for (int v = 100; v <= 112; v++) {
            S.x.numbers(0, 1, 1);
            S.x.write(0, 0, v);
            S.due("judge 0 1 of " + v, S.x.judge(0, 1), v < 103 ? 2 : 1);
            S.due("perform 0 of " + v, S.x.perform(0), 0);
        }
        S.due("count 7", 0);
    }

    private static void put(int tray, int sort, long... numbers) {
        S.due("numbers", S.x.numbers(tray, sort, numbers.length), 0);
        for (int i = 0; i < numbers.length; i++) {
            S.due("write", S.x.write(tray, i, numbers[i]), numbers[i]);
        }
    }

    private static void perform(long v) {
        put(0, 3, v);
        S.due("perform of " + v, S.x.perform(0), 1);
    }

    private static void whatDeedsDo() {
        S.says("10 to 14: PATTERN v - 11 in use (10: NONE)");
        S.fresh(FULL);
        for (int v : new int[] {14, 10, 11, 12, 13, 10}) {
            perform(v);
            S.due("count 5", v - 11);
        }
        S.says("10000 to 15999: the POINT of LANE (v - 10000) by 1000 is the rest");
        for (int l = 0; l < 6; l++) {
            perform(10383 + 1000 * l);
            S.due("lane " + l + " 4", 383);
            perform(10000 + 1000 * l);
            S.due("lane " + l + " 4", 0);
            perform(10001 + 1001 * l);
            S.due("lane " + l + " 4", 1 + l);
        }
        S.says("100 to 199: LANE (v - 100) by 10 is TRAINED, how v modulo 10");
        for (int l = 0; l < 6; l++) {
            perform(102 + 10 * l);
            S.due("lane " + l + " 4", 5);
            perform(100 + 10 * l);
            S.due("lane " + l + " 4", 125);
            perform(10000 + 1000 * l);
            perform(101 + 10 * l);
            S.due("lane " + l + " 4", 125);
        }
        S.fresh(HEAD + LANE + "passes:level*24+delay=0;edge:delay=1;");
        for (long how = 0; how < 2; how++) {
            perform(10383);
            perform(100 + how);
            S.run("lane 0 4 => 0\nplace 0 9 => 0\n");
            S.due("train 0 " + how, 0);
            S.due("lane 0 4", 0);
        }
        S.says("0: a TICK; 1: a TICK, then all LANES are FOLLOWED");
        S.fresh(FULL);
        perform(15125);
        perform(10125);
        perform(0);
        S.run("count 4 => 1\nlane 5 4 => 125\n");
        perform(1);
        S.run("count 4 => 2\nlane 5 4 => 125\nlane 0 4 => 125\n");
        S.fresh(HEAD + LANE.repeat(6) + EVERYWHERE);
        perform(1);
        for (int l = 0; l < 6; l++) {
            S.due("lane " + l + " 4", 1);
        }
    }

    private static void judging() {
        S.says("DEEDS, judged as if done, what 0: the first place that can't be (NONE), 1: why (0)");
        for (int bad = 0; bad < 40; bad++) {
            S.fresh(HEAD + LANE + "drifts:time;passes:drift<9;");
            S.run("numbers 1 2 40 => 0\njudge 1 0 => -1\njudge 1 1 => 0\n");
            S.x.write(1, bad, bad % 2 == 0 ? 2 : 103);
            S.due("judge 1 0", bad);
            S.due("judge 1 1", 1);
            S.due("judge 1 3", bad < 9 ? 1 : 0);
            S.x.write(1, bad, 100);
            S.due("judge 1 0", bad < 9 ? -1 : bad);
            S.due("judge 1 1", bad < 9 ? 0 : 2);
            S.due("judge 1 2", bad < 9 ? 179 : 0);
        }
        S.says("2: all POINTS added then, 3: LANES that PASS in them then, as bits");
        S.fresh(HEAD + LANE.repeat(6) + "passes:delay=23 and not lane=2;");
        put(0, 1, 10383, 11383, 12383, 13383, 14383, 15383);
        S.run("judge 0 0 => -1\njudge 0 2 => 2298\njudge 0 3 => 59\n");
        put(0, 1);
        S.run("judge 0 0 => -1\njudge 0 1 => 0\njudge 0 2 => 0\njudge 0 3 => 0\nplace 5 383 => 1\njudge 0 2 => 383\njudge 0 3 => 32\n");
        S.run("judge 0 4 => -2\njudge 0 -1 => -2\njudge 4 0 => -2\njudge -1 0 => -2\njudge 3 0 => -6\njudge 3 4 => -2\njudge 2 3 => -6\n");
        S.says("judged as if done: nothing is");
        put(0, 1, 0, 1, 100, 10005, 2);
        S.run("judge 0 0 => 4\ncount 4 => 0\ncount 7 => 1\nlane 0 4 => 0\nlane 5 4 => 383\n");
        S.run("new\nnumbers 0 1 2 => 0\njudge 0 0 => -1\njudge 0 2 => 0\njudge 0 3 => 0\nwrite 0 1 100 => 100\njudge 0 0 => 1\ncount 4 => 0\n");
    }

    private static void performing() {
        S.says("They are done, till one can't be: how many");
        for (int bad = 0; bad <= 40; bad++) {
            S.fresh(HEAD + LANE);
            S.run("numbers 3 0 40 => 0\n");
            if (bad < 40) {
                S.x.write(3, bad, 2);
            }
            S.due("perform 3", bad);
            S.due("count 4", bad);
            S.due("count 7", bad == 0 ? 0 : 1);
        }
        S.run("perform 4 => -2\nperform -1 => -2\nperform 0 => -6\nnumbers 0 0 0 => 0\nperform 0 => 0\ncount 7 => 1\n");
        S.run("perform 2147483647 => -2\nperform -2147483648 => -2\n");
    }

    // ---- undoing

    private static void undoBounds() {
        S.says("n calls (1 to 10) are UNDONE: how many still can be. -3: n, more than can be");
        for (int calls = 0; calls <= 12; calls++) {
            int can = Math.min(calls, 10);
            for (int n = -1; n <= 12; n++) {
                S.fresh(HEAD + LANE);
                for (int i = 0; i < calls; i++) {
                    S.x.ticks(1);
                }
                S.due("count 7", can);
                boolean fine = n >= 1 && n <= can;
                S.due("undo " + n, fine ? can - n : -3);
                S.due("count 4", fine ? calls - n : calls);
                S.due("count 7", fine ? can - n : can);
            }
            S.run("undo 2147483647 => -3\nundo -2147483648 => -3\n");
        }
    }

    private static void eldestForgotten() {
        S.says("the latest first, 10 at most (eldest are forgotten)");
        S.fresh(FULL);
        for (int i = 0; i < 25; i++) {
            S.x.place(i % 6, 100 + i);
        }
        for (int i = 24; i >= 15; i--) {
            S.due("lane " + i % 6 + " 4", 100 + i);
            S.due("undo 1", i - 15);
            S.due("lane " + i % 6 + " 4", 100 + i - 6);
        }
        S.run("undo 1 => -3\nlane 2 4 => 114\nplace 0 0 => 0\nundo 1 => 0\nlane 0 4 => 112\n");
    }

    private static void state(int point0, int point5, int time, int pattern) {
        S.due("lane 0 4", point0);
        S.due("lane 5 4", point5);
        S.due("count 4", time);
        S.due("count 5", pattern);
    }

    private static void undoneAsAWhole() {
        S.says("Calls that did some can be UNDONE each as a whole: POINTS, the TIME, the PATTERN");
        String[] calls = {"place 0 9", "train 5 0", "train 5 1", "train 0 2", "ticks 99", "follow 99", "pattern 3", "pattern -1",
            "perform 0", "day 1 40", "day -1 3"};
        for (String call : calls) {
            S.fresh(FULL);
            S.run("place 0 77 => 0\nplace 5 125 => 1\npattern 1 => -1\nticks 7 => 0\n");
            put(0, 2, 0, 1, 1, 12, 10012, 150, 11, 15012, 0, 10);
            S.run("count 7 => 4\nimage 1 => 0\nfeed 0 0 0 0 0 => 20\n");
            S.call(call);
            S.due("count 7 behind " + call, S.x.count(7), 5);
            S.due("undo 1", 4);
            state(77, 125, 7, 1);
            // what isn't undone
            S.run("count 8 => 20\njudge 0 0 => -1\nrestore 1 => 0\n");
            state(77, 125, 7, 1);
        }
        S.says("a call that did DEEDS that change nothing can be UNDONE, too");
        S.fresh(FULL);
        S.run("place 0 0 => 0\npattern -1 => -1\ncount 7 => 2\nundo 2 => 0\n");
    }

    private static void whatCannotBeUndone() {
        S.says("Calls that did some can be UNDONE");
        S.fresh(HEAD + LANE + "passes:1=2;edge:1=2;");
        S.run("ticks 1 => 0\ncount 7 => 1\n");
        String[] calls = {"place 0 384", "train 0 0", "train 0 1", "train 0 2", "train 0 3", "ticks 0", "follow 100", "pattern 0",
            "undo 2", "judge 0 0", "judge 0 3", "perform 0", "perform 1", "day 10 1", "day 6 1", "image 0", "image 1", "numbers 0 1 1",
            "write 0 0 0", "judge 0 0", "lists 0 0", "feed 0 0 0 0 0", "area 0", "holds 0", "follows 0", "at 0 9", "later 0 9",
            "numbers 0 1 0", "perform 0", "chance 0 6 0", "mean 6 0", "lab 21", "lab 5"};
        for (String call : calls) {
            S.call(call);
            S.due("count 7 behind " + call, S.x.count(7), 1);
        }
        S.run("undo 1 => 0\ncount 4 => 0\nticks 1 => 0\nrestore 0 => 0\ncount 7 => 0\ncount 4 => 1\n");
    }

    // ---- days

    /** A DRAW in longs, where nothing wraps around. */
    private static long[] draw(long x) {
        long next = (1103515245L * x + 12345L) % 4294967296L;
        return new long[] {next, next / 65536};
    }

    private static List<Long> deedsOfADay(int seed, int times) {
        List<Long> deeds = new ArrayList<>();
        long[] d = {seed < 0 ? seed + 4294967296L : seed, 0};
        for (int i = 0; i < times; i++) {
            d = draw(d[0]);
            int sort = (int) (d[1] % 6);
            long deed = sort == 0 ? 0 : 1;
            if (sort == 3) {
                d = draw(d[0]);
                deed = 10 + d[1] % 5;
            } else if (sort >= 4) {
                d = draw(d[0]);
                deed = (sort == 4 ? 100 : 10000) + (sort == 4 ? 10 : 1000) * (d[1] % 6);
                d = draw(d[0]);
                deed += d[1] % (sort == 4 ? 3 : 384);
            }
            deeds.add(deed);
        }
        return deeds;
    }

    /** A DAY is as its DEEDS in a TRAY each, if it can be. */
    private static void oneDay(String text, int seed, int times) {
        S.fresh(text);
        EyeTrainer twin = new EyeTrainer();
        Calls.tell(twin, text);
        int done = 0;
        for (long deed : deedsOfADay(seed, times)) {
            twin.numbers(0, 3, 1);
            twin.write(0, 0, deed);
            done += twin.perform(0);
        }
        S.due("day " + seed + " " + times, done);
        for (int what = 0; what <= 6; what++) {
            S.due("count " + what, twin.count(what));
        }
        for (int l = 0; l < 6; l++) {
            S.due("lane " + l + " 4", twin.lane(l, 4));
        }
        S.due("count 7", done == 0 ? 0 : 1);
    }

    private static void days() {
        S.says("x becomes 1103515245 x + 12345, it is x >>> 16; so many times (1 to 40); as in a TRAY, if it can be");
        String[] texts = {FULL, HEAD + LANE + LANE + "pattern 3;drifts:time-50;", HEAD, HEAD + LANE.repeat(6) + "passes:1=2;edge:1=2;"};
        for (String text : texts) {
            for (int seed : new int[] {0, 1, -1, Integer.MIN_VALUE, Integer.MAX_VALUE, Integer.MIN_VALUE + 1, 65536, -65536}) {
                oneDay(text, seed, 1);
                oneDay(text, seed, 2);
                oneDay(text, seed, 39);
                oneDay(text, seed, 40);
            }
            for (int i = 0; i < 60; i++) {
                oneDay(text, i * 104729 * (i % 2 == 0 ? 1 : -1), 1 + i % 40);
            }
        }
        S.says("-3: how many times");
        S.fresh(FULL);
        S.run("day 1 0 => -3\nday 1 41 => -3\nday 1 -1 => -3\nday 1 2147483647 => -3\nday 1 -2147483648 => -3\ncount 4 => 0\ncount 7 => 0\n");
    }

    // ---- trays

    private static void traySizes() {
        S.says("TRAYS 0 to 3 are MISSING at first, or have 0 to 40 numbers");
        for (int tray = 0; tray < 4; tray++) {
            S.x = new EyeTrainer();
            for (int t = 0; t < 4; t++) {
                S.due("judge " + t + " 0", -6);
                S.due("perform " + t, -6);
                S.due("write " + t + " 0 0", -6);
            }
            for (int n = 0; n <= 40; n += n < 2 || n > 37 ? 1 : 7) {
                S.due("numbers " + tray + " 1 " + n, 0);
                S.due("write at the end", S.x.write(tray, n, 5), -7);
                S.due("write ahead of the first", S.x.write(tray, -1, 5), -7);
                S.due("write at the last", S.x.write(tray, n - 1, 5), n == 0 ? -7 : 5);
                S.due("write at the first", S.x.write(tray, 0, 6), n == 0 ? -7 : 6);
            }
            S.due("write " + tray + " 2147483647 0", -7);
            S.due("write " + tray + " -2147483648 0", -7);
            for (int t = 0; t < 4; t++) {
                S.due("judge " + t + " 0", t == tray ? 0 : -6);
            }
        }
        S.says("-2: no such TRAY, sort; -3, and the TRAY stays: n is below 0 or above 40");
        S.run("new\nnumbers 0 4 1 => -2\nnumbers 0 -1 1 => -2\nnumbers 4 0 1 => -2\nnumbers -1 0 1 => -2\nnumbers 0 0 41 => -3\nnumbers 0 0 -1 => -3\n");
        S.run("numbers 0 4 41 => -2\nnumbers 4 0 -1 => -2\nnumbers 0 3 2147483647 => -3\nnumbers 0 3 -2147483648 => -3\njudge 0 0 => -6\n");
        S.run("numbers 0 3 2 => 0\nwrite 0 1 4294967298 => 4294967298\nnumbers 0 0 41 => -3\nnumbers 0 0 -1 => -3\nnumbers 0 4 1 => -2\n");
        S.run("judge 0 0 => 1\nwrite 0 2 0 => -7\nwrite 0 0 4294967296 => 4294967296\njudge 0 0 => 0\n");
    }

    private static void traysInPlaceOfOthers() {
        S.says("A TRAY has n numbers of a sort, all 0 (in place of another one)");
        S.fresh(HEAD);
        for (int n = 1; n <= 40; n++) {
            S.x.numbers(0, 3, 40);
            S.x.write(0, n - 1, 2);
            S.due("judge 0 0", n - 1);
            S.due("numbers 0 0 " + n, 0);
            S.due("judge 0 0", -1);
            S.due("perform 0", n);
            S.due("write", S.x.write(0, n - 1, 300), 44);
            S.due("write", S.x.write(0, n, 2), -7);
        }
        S.run("numbers 0 3 1 => 0\nwrite 0 0 300 => 300\nnumbers 0 3 0 => 0\njudge 0 0 => -1\nnumbers 0 3 1 => 0\njudge 0 0 => -1\n");
    }

    private static void writes() {
        S.says("Number i of a TRAY is v, cut to its sort: as it is there");
        int[] bits = {8, 16, 32, 64};
        for (int sort = 0; sort < 4; sort++) {
            S.x = new EyeTrainer();
            S.x.numbers(sort, sort, 40);
            for (int k = 0; k < 64; k++) {
                for (long near = -1; near <= 1; near++) {
                    long v = (1L << k) + near;
                    // moved up and down again: only the lowest bits of a number are left, its sign with them
                    int above = 64 - bits[sort];
                    S.due("write " + v, S.x.write(sort, 39, v), v << above >> above);
                    S.due("write " + -v, S.x.write(sort, 0, -v), -v << above >> above);
                }
            }
        }
        S.run("new\nnumbers 0 0 1 => 0\nwrite 0 0 127 => 127\nwrite 0 0 128 => -128\nwrite 0 0 255 => -1\nwrite 0 0 256 => 0\nwrite 0 0 -129 => 127\n");
        S.run("numbers 0 1 1 => 0\nwrite 0 0 32767 => 32767\nwrite 0 0 32768 => -32768\nwrite 0 0 65535 => -1\nwrite 0 0 65536 => 0\n");
        S.run("write 0 0 -32769 => 32767\nnumbers 0 2 1 => 0\nwrite 0 0 2147483647 => 2147483647\nwrite 0 0 2147483648 => -2147483648\n");
        S.run("write 0 0 -2147483649 => 2147483647\nwrite 0 0 4294967295 => -1\nwrite 0 0 4294967296 => 0\nnumbers 0 3 1 => 0\n");
        S.run("write 0 0 9223372036854775807 => 9223372036854775807\nwrite 0 0 -9223372036854775808 => -9223372036854775808\n");
        S.says("what was cut is what is there: as a DEED");
        S.run("numbers 0 0 1 => 0\nwrite 0 0 257 => 1\njudge 0 0 => -1\nwrite 0 0 266 => 10\njudge 0 0 => -1\nwrite 0 0 10000 => 16\njudge 0 0 => 0\n");
        S.run("numbers 0 1 1 => 0\nwrite 0 0 65546 => 10\njudge 0 0 => -1\nnumbers 0 2 1 => 0\nwrite 0 0 4294967306 => 10\njudge 0 0 => -1\n");
        S.says("-2: no such TRAY; -6; -7");
        S.run("write 4 0 0 => -2\nwrite -1 0 0 => -2\nwrite 1 0 0 => -6\nwrite 1 -1 0 => -6\nwrite 0 1 0 => -7\nwrite 0 -1 0 => -7\nwrite 4 99 0 => -2\n");
        S.run("write 2147483647 0 0 => -2\nwrite -2147483648 0 0 => -2\n");
    }

    private static void lists() {
        S.says("each number from 0 to 383 becomes 2 times itself, and 1 if the LANE PASSES there now");
        S.fresh(HEAD + LANE + LANE + "passes:lane=0 and[level*24+delay=0 or level*24+delay=383];");
        for (long v : new long[] {-2, -1, 0, 1, 382, 383, 384, 385, Long.MIN_VALUE, Long.MAX_VALUE, 1L << 32, -1L << 32, 383 + (1L << 32)}) {
            boolean cell = v >= 0 && v <= 383;
            for (int l = 0; l < 2; l++) {
                put(0, 3, v, 384, -1);
                S.due("lists 0 " + l + " of " + v, S.x.lists(0, l), cell ? 1 : 0);
                long now = cell ? 2 * v + (l == 0 && (v == 0 || v == 383) ? 1 : 0) : v;
                tells(now);
            }
        }
        S.due("a TRAY of 40", S.x.numbers(1, 2, 40), 0);
        S.run("lists 1 0 => 40\nlists 1 1 => 40\nnumbers 1 2 0 => 0\nlists 1 0 => 0\n");
        S.says("cut to the sort; others stay");
        S.fresh(HEAD + LANE + "passes:delay=15 and level=2;");
        put(0, 0, 63, 64, 127, -1);
        // 127, -128, -2, -1: the first of these is a CELL still
        S.run("lists 0 0 => 3\nlists 0 0 => 1\nlists 0 0 => 0\n");
        put(0, 0, 64);
        S.run("lists 0 0 => 1\ndrifts 0 0 => -3\n");
        put(0, 0, 63);
        S.run("lists 0 0 => 1\ndrifts 0 0 => 2147483647\n");
        put(0, 1, 383);
        S.run("lists 0 0 => 1\nlists 0 0 => 0\ndrifts 0 0 => 2147483647\n");
        S.says("-2: the TRAY, the LANE; -6");
        S.run("lists 4 0 => -2\nlists -1 0 => -2\nlists 0 1 => -2\nlists 0 -1 => -2\nlists 1 0 => -6\nlists 1 1 => -2\nlists 4 1 => -2\n");
        S.run("new\nlists 0 0 => -2\nnumbers 0 0 1 => 0\nlists 0 0 => -2\n");
    }

    /** The first number of TRAY 0, told by what DEED or CELL it is: each is tried as what it could be. */
    private static void tells(long want) {
        S.due("the number as it is", S.x.drifts(0, 0), -3);
        S.x.write(0, 1, 0);
        S.x.write(0, 2, 0);
        boolean could = want >= 0 && want <= 767;
        boolean passed = want % 2 != 0;
        long cell = want / 2;
        int drifts = S.x.drifts(0, 1);
        S.due("number " + want + " of LANE 1, which passes nowhere", drifts, could ? passed ? 0 : Integer.MAX_VALUE : -3);
        if (could) {
            S.due("its CELL", S.x.passes(0, (int) cell), cell == 0 || cell == 383 ? 1 : 0);
        }
    }

    // ---- images, counts

    private static void images() {
        S.says("IMAGES 0 to 1: none at first; -5: none was made");
        S.run("new\nrestore 0 => -5\nrestore 1 => -5\nrestore 2 => -2\nrestore -1 => -2\nimage 2 => -2\nimage -1 => -2\nrestore 0 => -5\n");
        S.run("image 2147483647 => -2\nimage -2147483648 => -2\nrestore 2147483647 => -2\nrestore -2147483648 => -2\n");
        S.run("image 1 => 0\nrestore 0 => -5\nrestore 1 => 0\nimage 0 => 0\nrestore 0 => 0\n");
        S.says("THE LAB and what a call could bring back by UNDOING; nothing can be UNDONE behind");
        S.fresh(FULL);
        S.run("place 0 383 => 0\nplace 5 1 => 0\npattern 3 => -1\nticks 50 => 0\nimage 0 => 0\ncount 7 => 4\n");
        S.due("another text", Calls.tell(S.x, "lab aspect 9 hold 8;" + LANE + EVERYWHERE), 3);
        S.run("place 0 7 => 1\nticks 99 => 1\nimage 1 => 0\nrestore 0 => 0\n");
        state(383, 1, 50, 3);
        S.run("count 0 => 6\ncount 1 => 4\ncount 2 => 1\ncount 3 => 1\ncount 7 => 0\ncount 9 => 12\nundo 1 => -3\ndrift 9 => 9\narea 0 => 0\n");
        S.run("restore 1 => 0\ncount 0 => 1\ncount 1 => 0\ncount 2 => 9\ncount 3 => 8\ncount 4 => 99\ncount 5 => -1\ncount 6 => 1\ncount 9 => 3\n");
        S.run("lane 0 4 => 7\nlane 1 4 => -2\narea 0 => 384\ndrift 9 => 0\nrestore 0 => 0\n");
        state(383, 1, 50, 3);
        S.says("All that is in an IMAGE is as it was: TRAYS, THE TAPE and the FAULT aren't in it");
        S.run("numbers 2 0 1 => 0\nimage 0 => 0\nnumbers 2 0 2 => 0\nnumbers 3 0 3 => 0\nfeed 0 0 0 0 0 => 20\nrestore 0 => 0\n");
        S.run("count 8 => 20\nwrite 2 1 0 => 0\nwrite 3 2 0 => 0\nlab 1 => -31\nrestore 0 => 0\nfault 0 => 1\nfault 1 => 0\n");
        S.says("an IMAGE stays as it was made");
        S.run("place 0 5 => 0\nundo 1 => 0\nplace 0 6 => 0\nticks 1 => 0\nrestore 0 => 0\n");
        state(383, 1, 50, 3);
    }

    private static void counts() {
        S.says("NONE for others");
        int[] far = {-1, -2, 10, 11, 255, 256, 65536, Integer.MAX_VALUE, Integer.MIN_VALUE, Integer.MIN_VALUE + 4};
        for (int what : far) {
            S.run("new\ncount " + what + " => -1\n");
        }
        S.says("0 LANES, 1 PATTERNS, 2 ASPECT, 3 HOLD, 4 TIME, 5 the PATTERN in use, 6 LANES that PASS, 7 UNDONE, 8 TAPE, 9 LINES");
        S.fresh("lab aspect 9 hold 8;" + LANE.repeat(6) + "pattern 1;".repeat(4) + "passes:not lane=1 and not lane=4;");
        S.run("ticks 77 => 4\npattern 2 => -1\nfeed 0 0 0 0 0 => 20\ncount 0 => 6\ncount 1 => 4\ncount 2 => 9\ncount 3 => 8\ncount 4 => 77\n");
        S.run("count 5 => 2\ncount 6 => 45\ncount 7 => 2\ncount 8 => 20\ncount 9 => 12\ncount 10 => -1\ncount -1 => -1\n");
        for (int what : far) {
            S.due("count " + what, -1);
        }
        S.run("lane 0 6 => -2\nlane 0 -1 => -2\nlane 5 5 => 1\nlane 4 5 => 0\nlane 6 0 => -2\nlane -1 5 => -2\nlane 5 0 => 5\nlane 5 3 => 2\n");
        S.run("stress 3 => 1\nstress 4 => -2\nstress -1 => -2\nrow 5 15 => 16777215\nrow 5 16 => -2\nrow 5 -1 => -2\nrow 6 0 => -2\n");
        S.says("The DRIFT at a TIME (0 to 9999). -99000003");
        S.run("drift 0 => 0\ndrift 9999 => 0\ndrift 10000 => -99000003\ndrift -1 => -99000003\ndrift 2147483647 => -99000003\n");
        S.run("drift -2147483648 => -99000003\nnew\ndrift 9999 => 0\ndrift 10000 => -99000003\ndrift -1 => -99000003\n");
    }

    private static void the512thCall() {
        S.says("An object is used for at most 512 calls after it has been made");
        S.fresh(HEAD + LANE + EVERYWHERE);
        int before = Calls.feeds(HEAD + LANE + EVERYWHERE).length + 1;
        for (int i = before + 1; i <= 511; i++) {
            S.x.follow(99);
        }
        S.due("the TIME behind 511 calls", S.x.count(4), 99 * (511 - before));
        S.x = new EyeTrainer();
        for (int i = 1; i <= 511; i++) {
            S.due("lab " + i, S.x.lab(0), -32);
        }
        S.due("the 512th call", S.x.image(1), 0);
    }
}
