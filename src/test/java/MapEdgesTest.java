/**
 * The boundary cases that the document names of CELLS, the DRIFT, MAPS and their shapes, PATTERNS, GOING, STEPS, what is
 * SEEN and CHANCES. Each is told with its sentence.
 */
public final class MapEdgesTest {
    private static final String HEAD = "lab aspect 1 hold 1;";
    private static final String LANE = "lane at 0 level 0 wide 1 high 1;";
    private static final int ALL = (1 << 24) - 1;

    private static final Script S = new Script();

    public static void main(String[] args) {
        cells();
        driftsKept();
        plainEyes();
        clocks();
        noPatternAtFirst();
        rectangles();
        middles();
        ellipses();
        ellipsesOfAllCells();
        eyes();
        beyondTheCells();
        allApart();
        textBehindText();
        margins();
        edges();
        lags();
        buses();
        harshest();
        tells();
        going();
        goingFor999Ticks();
        steps();
        ways();
        seen();
        attempts();
        chances();
        means();
        S.end("the edges of maps");
    }

    private static String block(int left, int right, int low, int high) {
        return "not delay<" + left + " and not delay>" + right + " and not level<" + low + " and not level>" + high;
    }

    private static String row(int level, int left, int right) {
        return block(left, right, level, level);
    }

    /** A LANE that PASSES just where one of the laws holds. */
    private static void passing(int aspect, String... laws) {
        S.fresh("lab aspect " + aspect + " hold 1;" + LANE + "passes:" + String.join(" or ", laws) + ";");
    }

    // ---- cells, drift, eyes

    private static void cells() {
        S.says("CELLS: DELAYS 0 to 23 by LEVELS 0 to 15; CELL c: LEVEL c by 24, DELAY the rest");
        for (int c = 0; c < 384; c++) {
            int delay = c % 24;
            int level = c / 24;
            passing(1, "level * 24 + delay = " + c);
            S.due("steps 0", delay + level);
            for (int other = Math.max(0, c - 25); other <= Math.min(383, c + 25); other++) {
                S.due("passes 0 " + other, other == c ? 1 : 0);
            }
            S.due("row 0 " + level, 1 << delay);
            S.run("area 0 => 1\neyes 0 => 1\ngreatest 0 => 1\nrectangle 0 0 => 1\nellipse 0 0 => 0\n");
            S.due("rectangle 0 1", delay);
            S.due("rectangle 0 2", delay);
            S.due("rectangle 0 3", level);
            S.due("rectangle 0 4", level);
            S.due("rectangle 0 5", c);
            S.due("ellipse 0 1", c);
            S.due("place 0 " + c, 1);
            S.due("lane 0 4", c);
            S.run("lane 0 5 => 1\ncount 6 => 1\nsteps 0 => 0\nplace 0 0 => " + (c == 0 ? 1 : 0) + "\n");
            S.due("train 0 0", c);
            S.due("undo 1", 2);
            S.due("train 0 1", c);
            S.due("bus 0", 1 << delay);
        }
        S.says("Each LANE has a POINT, a CELL (at first CELL 0)");
        S.fresh(HEAD + LANE.repeat(6));
        for (int l = 0; l < 6; l++) {
            S.due("lane " + l + " 4", 0);
        }
    }

    private static int kept(int drift) {
        return Math.max(-15, Math.min(15, drift));
    }

    private static String signed(int v) {
        return v < 0 ? "0-" + -v : String.valueOf(v);
    }

    private static void driftsKept() {
        S.says("The DRIFT: what the law drifts tells, -15 at least, 15 at most (without one: 0)");
        for (int told = -40; told <= 40; told++) {
            driftKept(signed(told), kept(told));
        }
        driftKept("999*999*2", 15);
        driftKept("0-999*999*2", -15);
        S.fresh(HEAD + "lane at 4 level 0 wide 1 high 1;passes:drift=0;");
        S.run("drift 0 => 0\ndrift 9999 => 0\narea 0 => 384\nrisen 0 => " + (ALL & -1 << 4) + "\n");
    }

    /** The DRIFT as the call, the laws, the plain eye and the plain clock know it. */
    private static void driftKept(String told, int want) {
        String drifts = "drifts:" + told + ";";
        S.fresh(HEAD + LANE + drifts + "passes:level*24+delay=drift+15;edge:delay=drift or delay+drift=0;");
        S.due("drift 0", want);
        S.due("area 0", 1);
        S.due("passes 0 " + (want + 15), 1);
        S.due("risen 0", 1 << Math.abs(want));
        S.fresh(HEAD + "lane at 12 level 0 wide 1 high 1;" + drifts);
        int at = 12 + want;
        S.due("row 0 0", at < 0 || at > 23 ? 0 : 1 << at);
        S.due("risen 0", at < 0 ? ALL : at > 23 ? 0 : ALL & -1 << at);
    }

    private static void plainEyes() {
        S.says("are together less than w times HIGH");
        S.fresh(HEAD + "lane at 10 level 7 wide 4 high 2;lane at 10 level 7 wide 4 high 3;");
        S.due("4 DELAYS off: 8 is not less than 8", S.x.row(0, 7), 0x3f80);
        S.due("2 DELAYS and 1 LEVEL off: 8 is not less than 8", S.x.row(0, 8), 0x0e00);
        S.run("row 0 9 => 0\nrow 0 6 => 3584\nrow 0 5 => 0\n");
        S.due("2 LEVELS off: 8, and 1 DELAY: 11 is less than 12", S.x.row(1, 9), 0x0e00);
        S.run("row 1 10 => 0\nrow 1 4 => 0\n");
        S.says("never, if w is below 1");
        for (int wide = 1; wide <= 10; wide++) {
            S.fresh(HEAD + "lane at 12 level 0 wide " + wide + " high 1;" + "pattern 9;pattern " + (wide - 1) + ";");
            S.due("area without a PATTERN", S.x.area(0), 2 * wide - 1);
            S.run("pattern 0 => -1\narea 0 => " + (wide == 10 ? 1 : 0) + "\npattern 1 => 0\narea 0 => 1\n");
        }
        S.says("A LANE PASSES in a CELL, without a law");
        int[] ats = {0, 1, 22, 23};
        int[] mids = {0, 1, 14, 15};
        int[] wides = {1, 2, 23, 24};
        int[] highs = {1, 2, 15, 16};
        for (int a : ats) {
            for (int m : mids) {
                for (int w : wides) {
                    for (int h : highs) {
                        plainEye(a, m, w, h);
                    }
                }
            }
        }
    }

    private static void plainEye(int at, int mid, int wide, int high) {
        S.fresh(HEAD + "lane at " + at + " level " + mid + " wide " + wide + " high " + high
            + ";pattern 9;pattern 1;drifts:if time=0 then 0 else if time=1 then 15 else 0-15 end end;");
        for (int time = 0; time < 3; time++) {
            int drift = time == 0 ? 0 : time == 1 ? 15 : -15;
            for (int p = -1; p < 2; p++) {
                S.x.pattern(p);
                int w = wide - (p == 0 ? 9 : p == 1 ? 1 : 0);
                for (int level = 0; level < 16; level++) {
                    int bits = 0;
                    for (int delay = 0; delay < 24; delay++) {
                        int together = Math.abs(delay - at - drift) * high + Math.abs(level - mid) * w;
                        bits |= w >= 1 && together < w * high ? 1 << delay : 0;
                    }
                    S.due("row 0 " + level, S.x.row(0, level), bits);
                }
            }
            S.x.ticks(1);
        }
    }

    private static void clocks() {
        S.says("without one: the DELAY is no less than AT and DRIFT together");
        for (int at = 0; at < 24; at++) {
            S.fresh(HEAD + "lane at " + at + " level 0 wide 1 high 1;drifts:time-15;");
            for (int drift = -15; drift <= 15; drift++) {
                int from = at + drift;
                S.due("risen 0", S.x.risen(0), from < 0 ? ALL : from > 23 ? 0 : ALL & -1 << from);
                S.x.ticks(1);
            }
        }
    }

    private static void noPatternAtFirst() {
        S.says("The PATTERN in use (at first NONE); its STRESS (NONE: 0)");
        S.fresh(HEAD + LANE + "pattern 9;pattern 1;passes:delay=stress;");
        S.run("count 5 => -1\nrow 0 0 => 1\npattern 0 => -1\nrow 0 0 => 512\npattern 1 => 0\nrow 0 0 => 2\n");
        S.run("pattern -1 => 1\ncount 5 => -1\nrow 0 0 => 1\n");
    }

    // ---- shapes

    private static void rectangle(int cells, int left, int right, int low, int high) {
        S.due("rectangle 0 0", cells);
        S.due("rectangle 0 1", left);
        S.due("rectangle 0 2", right);
        S.due("rectangle 0 3", low);
        S.due("rectangle 0 4", high);
    }

    private static void rectangles() {
        S.says("RECTANGLE: the one of most CELLS");
        passing(1, row(2, 10, 13), row(5, 0, 4));
        rectangle(5, 0, 4, 5, 5);
        passing(1, block(5, 9, 3, 4), block(20, 20, 3, 12));
        rectangle(10, 5, 9, 3, 4);
        passing(1, block(5, 9, 3, 4), block(20, 20, 3, 13));
        rectangle(11, 20, 20, 3, 13);
        passing(1, row(7, 0, 23), block(0, 0, 0, 15));
        rectangle(24, 0, 23, 7, 7);
        S.says("of like ones that of the least low");
        passing(1, row(2, 10, 13), row(5, 0, 3));
        rectangle(4, 10, 13, 2, 2);
        passing(1, block(10, 10, 2, 5), row(3, 0, 3));
        rectangle(4, 10, 10, 2, 5);
        S.says("then of the least high");
        passing(1, block(10, 11, 3, 4), row(3, 20, 23));
        rectangle(4, 20, 23, 3, 3);
        passing(1, block(2, 2, 3, 6), block(10, 11, 3, 4));
        rectangle(4, 10, 11, 3, 4);
        S.says("then of the least left");
        passing(1, block(12, 13, 3, 4), block(5, 6, 3, 4));
        rectangle(4, 5, 6, 3, 4);
        passing(1, row(15, 12, 23), row(15, 0, 10));
        rectangle(12, 12, 23, 15, 15);
        passing(1, row(15, 13, 23), row(15, 0, 10));
        rectangle(11, 0, 10, 15, 15);
        S.says("RECTANGLE: CELLS of DELAYS from left to right by LEVELS from low to high");
        passing(1, "1 = 1");
        rectangle(384, 0, 23, 0, 15);
        passing(1, "delay = 23");
        rectangle(16, 23, 23, 0, 15);
        passing(1, "level = 15");
        rectangle(24, 0, 23, 15, 15);
        passing(1, "not level*24+delay=0");
        rectangle(368, 1, 23, 0, 15);
        passing(1, "not level*24+delay=383");
        rectangle(368, 0, 22, 0, 15);
        // a row's end and the next one's begin are not next to one another
        passing(1, row(3, 20, 23), row(4, 0, 4));
        rectangle(5, 0, 4, 4, 4);
        S.says("NONE: its MAP has no CELL; -2");
        passing(1, "1 = 2");
        for (int what = 0; what <= 5; what++) {
            S.due("rectangle 0 " + what, -1);
        }
        S.run("rectangle 0 6 => -2\nrectangle 0 -1 => -2\nrectangle 1 0 => -2\nellipse 0 0 => -1\nellipse 0 1 => -1\n");
        S.run("ellipse 0 2 => -2\nellipse 0 -1 => -2\nellipse 1 0 => -2\narea 0 => 0\neyes 0 => 0\ngreatest 0 => 0\n");
    }

    private static void middles() {
        S.says("The MIDDLE of a RECTANGLE: left and right, low and high added, by 2, rounded down");
        for (int left = 0; left < 24; left += 3) {
            for (int right = left; right < 24; right++) {
                for (int low = 0; low < 16; low += 5) {
                    for (int high = low; high < 16; high += 3) {
                        int middle = (int) Math.floor((low + high) / 2.0) * 24 + (int) Math.floor((left + right) / 2.0);
                        passing(1, block(left, right, low, high));
                        S.due("rectangle 0 5", middle);
                        S.due("train 0 0", middle);
                    }
                }
            }
        }
    }

    private static void ellipse(int size, int cell) {
        S.due("ellipse 0 0", size);
        S.due("ellipse 0 1", cell);
        S.due("train 0 1", cell);
    }

    private static void ellipses() {
        S.says("ELLIPSE: the one of the greatest SIZE");
        passing(1, block(5, 9, 5, 9), row(0, 0, 1));
        ellipse(8, 7 * 24 + 7);
        S.says("of like ones of the least LEVEL");
        passing(1, "level*24+delay=3*24+5", "level*24+delay=9*24+2");
        ellipse(0, 3 * 24 + 5);
        passing(9, block(5, 9, 5, 9));
        ellipse(8, 5 * 24 + 7);
        S.says("then of the least DELAY");
        passing(1, "level*24+delay=3*24+15", "level*24+delay=3*24+2");
        ellipse(0, 3 * 24 + 2);
        passing(1, row(15, 22, 23), row(15, 0, 1));
        ellipse(0, 15 * 24);
        S.says("its SIZE is 1 less than the least of (DELAYS apart, squared) and ASPECT times (LEVELS apart, squared), added");
        passing(1, block(5, 9, 5, 9) + " and not level*24+delay=9*24+9");
        ellipse(7, 7 * 24 + 7);
        passing(2, block(5, 9, 5, 9) + " and not level*24+delay=9*24+9");
        // the first LEVEL where 2 times the LEVELS apart squared is no less than 9 is 7; 4 and 2 times 4 are 12
        ellipse(8, 7 * 24 + 7);
        passing(8, row(8, 0, 23));
        ellipse(7, 8 * 24 + 2);
        passing(9, row(8, 0, 23));
        ellipse(8, 8 * 24 + 2);
        S.says("all places around the CELLS (of DELAYS -1 to 24 by LEVELS -1 to 16 those that are no CELLS, corners, too)");
        passing(1, block(0, 4, 0, 4));
        ellipse(8, 2 * 24 + 2);
        passing(1, block(19, 23, 11, 15));
        ellipse(8, 13 * 24 + 21);
        passing(1, block(0, 4, 11, 15));
        ellipse(8, 13 * 24 + 2);
        passing(1, block(19, 23, 0, 4));
        ellipse(8, 2 * 24 + 21);
        passing(1, "level = 0");
        ellipse(0, 0);
        passing(4, "level = 15");
        ellipse(3, 15 * 24 + 1);
        passing(1, "delay = 23");
        ellipse(0, 23);
    }

    /** With all CELLS in the MAP only the places around count: the nearest on each side. */
    private static void ellipsesOfAllCells() {
        S.says("ELLIPSE: all CELLS in the MAP");
        for (int aspect = 1; aspect <= 9; aspect++) {
            int size = -1;
            int cell = -1;
            for (int level = 0; level < 16; level++) {
                for (int delay = 0; delay < 24; delay++) {
                    int across = Math.min(delay + 1, 24 - delay);
                    int along = Math.min(level + 1, 16 - level);
                    int least = Math.min(across * across, aspect * along * along);
                    if (least - 1 > size) {
                        size = least - 1;
                        cell = level * 24 + delay;
                    }
                }
            }
            passing(aspect, "1 = 1");
            ellipse(size, cell);
        }
    }

    private static void eyes() {
        S.says("EYES: sets of CELLS of the MAP that hang together by sides");
        StringBuilder even = new StringBuilder("(delay+level)");
        for (int k = 2; k <= 38; k += 2) {
            even.append("*(delay+level-").append(k).append(")");
        }
        passing(1, even + "=0");
        S.run("area 0 => 192\neyes 0 => 192\ngreatest 0 => 1\nrectangle 0 0 => 1\nrectangle 0 5 => 0\nellipse 0 1 => 0\n");
        passing(1, "1 = 1");
        S.run("eyes 0 => 1\ngreatest 0 => 384\narea 0 => 384\n");
        passing(1, row(3, 0, 4), row(4, 5, 9));
        S.run("eyes 0 => 2\ngreatest 0 => 5\n");
        passing(1, row(3, 0, 5), row(4, 5, 9));
        S.run("eyes 0 => 1\ngreatest 0 => 11\n");
        // the end of a LEVEL is not next to the following one's begin
        passing(1, row(3, 22, 23), row(4, 0, 2));
        S.run("eyes 0 => 2\ngreatest 0 => 3\n");
        passing(1, "level = 0", "level = 15");
        S.run("eyes 0 => 2\ngreatest 0 => 24\n");
        passing(1, "delay = 0", "delay = 23");
        S.run("eyes 0 => 2\ngreatest 0 => 16\n");
        // a comb and a ring, whose CELLS are met in parts first
        passing(1, "level = 15", "delay*(delay-2)*(delay-4)*(delay-6)=0");
        S.run("eyes 0 => 1\ngreatest 0 => 84\n");
        passing(1, block(3, 9, 3, 9) + " and not [" + block(4, 8, 4, 8) + "]", "level*24+delay=6*24+6");
        S.run("eyes 0 => 2\ngreatest 0 => 24\n");
        // ways that go left and down from where they are first met
        passing(1, row(3, 9, 9), row(4, 2, 9), block(2, 2, 0, 4));
        S.run("greatest 0 => 13\neyes 0 => 1\neyes 0 => 1\ngreatest 0 => 13\n");
        passing(1, row(0, 9, 9), row(1, 2, 9));
        S.run("greatest 0 => 9\neyes 0 => 1\n");
        passing(1, row(0, 2, 2), row(1, 2, 9));
        S.run("greatest 0 => 9\neyes 0 => 1\n");
        passing(1, "1 = 2");
        S.run("greatest 0 => 0\neyes 0 => 0\ngreatest 0 => 0\n");
        S.says("EYES of one LANE and then another");
        S.fresh(HEAD + LANE + LANE + "passes:lane=0 and delay*level=0 and not delay+level=1 or lane=1 and delay=3;");
        S.run("eyes 0 => 3\neyes 1 => 1\ngreatest 0 => 22\ngreatest 1 => 16\neyes 0 => 3\n");
    }

    /** What a law would tell of a DELAY or a LEVEL that is none has no part in anything. */
    private static void beyondTheCells() {
        S.says("CELLS: DELAYS 0 to 23 by LEVELS 0 to 15, no others");
        String beyond = "[delay>23 or level>15 or delay<0 or level<0]";
        passing(1, beyond);
        S.run("area 0 => 0\neyes 0 => 0\ngreatest 0 => 0\nrectangle 0 0 => -1\nellipse 0 0 => -1\nsteps 0 => -1\nbus 0 => 0\n");
        S.run("train 0 0 => -12\ntrain 0 1 => -12\nlag 0 => -1\nfollow 1 => 0\nchance 0 6 0 => 0\nways 0 20 => 0\nlane 0 5 => 0\n");
        passing(1, "not " + beyond);
        S.run("area 0 => 384\neyes 0 => 1\nrectangle 0 0 => 384\nellipse 0 0 => 63\nmargin 0 1 => 23\nmargin 0 3 => 15\nbus 1 => 24\n");
        S.fresh(HEAD + LANE + "pattern 1;pattern 2;passes:not " + beyond + " or stress=1;");
        S.run("harshest 0 => 0\ntell 0 0 => 0\ntell 0 1 => 0\n");
        S.fresh(HEAD + LANE + "edge:delay>23 or delay<0;");
        S.run("risen 0 => 0\nedge 0 => -1\n");
        S.fresh("lab aspect 1 hold 2;" + LANE + "edge:delay>22;");
        S.run("risen 0 => 8388608\nedge 0 => -1\n");
        S.fresh(HEAD + LANE + "drifts:7;passes:" + beyond + " and drift>0;");
        tray(0, 1, 0);
        S.run("drifts 0 0 => 2147483647\nattempt 0 0 => 0\n");
    }

    /** One object, all LANES by all PATTERNS, LEVELS and DRIFTS: none is taken for another. */
    private static void allApart() {
        S.says("In the laws: delay, level, lane, stress, drift as told");
        for (int from = 0; from < 16; from += 4) {
            S.fresh(HEAD + LANE.repeat(6) + "pattern 1;pattern 2;pattern 3;pattern 4;drifts:time;"
                + "passes:(delay+lane*11)*(stress*7+level+3+drift*2)>200;edge:delay=lane+drift;");
            for (int time = 0; time < 3; time++) {
                for (int p = -1; p < 4; p++) {
                    S.x.pattern(p);
                    for (int l = 0; l < 6; l++) {
                        for (int level = from; level < from + 4; level++) {
                            int bits = 0;
                            for (int delay = 0; delay < 24; delay++) {
                                boolean in = (delay + l * 11) * ((p + 1) * 7 + level + 3 + time * 2) > 200;
                                bits |= in ? 1 << delay : 0;
                            }
                            S.due("row " + l + " " + level, S.x.row(l, level), bits);
                        }
                    }
                }
                for (int l = 0; l < 6; l++) {
                    S.due("risen " + l, S.x.risen(l), 1 << l + time);
                }
                S.x.ticks(1);
            }
        }
        S.says("Its CLOCK has RISEN by the DRIFT now, whatever was looked at ahead of it");
        S.fresh(HEAD + LANE + LANE + "drifts:time+3;edge:delay=drift+lane;passes:delay=drift;");
        S.run("edge 1 => 4\nrisen 0 => 8\nticks 1 => 0\nedge 0 => 4\nrow 0 0 => 16\nlater 0 9 => 0\nrisen 1 => 32\nedge 0 => 4\n");
    }

    /** One object, several texts: nothing that was found in the former one is left. */
    private static void textBehindText() {
        S.says("the first n bytes are THE LAB: nothing of the former one is left");
        for (int told = 1; told <= 9; told++) {
            S.due("a text", Calls.tell(S.x, HEAD + LANE + "drifts:" + told + ";passes:delay=" + told + ";edge:delay>" + told + ";"), 5);
            S.due("drift 0", told);
            S.due("row 0 0", 1 << told);
            S.due("edge 0", told + 1);
            S.due("a text", Calls.tell(S.x, HEAD + "lane at 9 level 3 wide " + told + " high 1;drifts:0-" + told + ";"), 3);
            S.due("drift 0", -told);
            S.due("area 0", 9 - told + 1 >= told ? 2 * told - 1 : 9);
            S.due("edge 0", told == 9 ? -1 : 9 - told);
        }
        S.run("image 0 => 0\n");
        Calls.tell(S.x, HEAD + "lane at 9 level 3 wide 1 high 1;drifts:4;");
        S.run("drift 0 => 4\nrow 0 3 => 8192\nimage 1 => 0\nrestore 0 => 0\ndrift 0 => -9\nrow 0 3 => 511\nrestore 1 => 0\nrow 0 3 => 8192\n");
        S.run("drift 0 => 4\nedge 0 => 13\n");
    }

    private static void margins() {
        S.says("MARGINS: how many CELLS next to one another it PASSES in beside that");
        for (int c = 0; c < 384; c += c < 24 || c >= 355 ? 1 : 5) {
            passing(1, "1 = 1");
            S.due("place 0 " + c, 1);
            S.due("margin 0 0", c % 24);
            S.due("margin 0 1", 23 - c % 24);
            S.due("margin 0 2", c / 24);
            S.due("margin 0 3", 15 - c / 24);
        }
        passing(1, block(5, 9, 3, 4), block(11, 15, 3, 3), block(7, 7, 6, 9));
        S.run("place 0 79 => 1\nmargin 0 0 => 2\nmargin 0 1 => 2\nmargin 0 2 => 0\nmargin 0 3 => 1\n");
        S.run("place 0 77 => 1\nmargin 0 0 => 0\nmargin 0 1 => 4\nplace 0 81 => 1\nmargin 0 1 => 0\nmargin 0 0 => 4\n");
        S.says("-5: it doesn't PASS in its POINT");
        S.run("place 0 82 => 0\nmargin 0 0 => -5\nmargin 0 3 => -5\nmargin 0 4 => -2\nmargin 0 -1 => -2\nmargin 1 0 => -2\n");
    }

    private static void edges() {
        S.says("EDGE: the least DELAY d, 1 at least .. and the HOLD - 1 DELAYS behind it (none of them above 23)");
        for (int hold = 1; hold <= 9; hold++) {
            for (int from = 0; from < 24; from++) {
                S.fresh("lab aspect 1 hold " + hold + ";lane at " + from + " level 0 wide 1 high 1;");
                edge(from >= 1 && from + hold <= 24 ? from : -1);
                for (int many = hold - 1; many <= hold + 1; many++) {
                    S.fresh("lab aspect 1 hold " + hold + ";" + LANE + "edge:not delay<" + from + " and delay<" + (from + many) + ";");
                    boolean held = many >= hold && from + hold <= 24;
                    edge(from >= 1 && held ? from : -1);
                }
            }
        }
        S.says("EDGE: its CLOCK hasn't RISEN at d - 1");
        S.fresh("lab aspect 1 hold 1;" + LANE + "edge:delay<5 or delay=9 or delay=23;");
        edge(9);
        S.fresh("lab aspect 1 hold 2;" + LANE + "edge:delay<5 or delay=9 or delay>20;");
        edge(21);
        S.fresh("lab aspect 1 hold 1;" + LANE + "edge:1=1;");
        edge(-1);
        S.fresh("lab aspect 1 hold 1;" + LANE + "edge:1=2;");
        edge(-1);
        S.fresh("lab aspect 1 hold 1;" + LANE + "edge:delay=0;");
        edge(-1);
        S.fresh("lab aspect 1 hold 1;" + LANE + "edge:not delay=0;");
        edge(1);
        S.says("the EDGE by DRIFTS");
        S.fresh("lab aspect 1 hold 3;lane at 10 level 0 wide 1 high 1;drifts:time-15;");
        for (int drift = -15; drift <= 15; drift++) {
            S.due("edge 0", S.x.edge(0), 10 + drift >= 1 && 10 + drift <= 21 ? 10 + drift : -1);
            S.x.ticks(1);
        }
    }

    /** The EDGE as the call tells it and as a POINT is LEVELLED by it, at the highest LEVEL. */
    private static void edge(int want) {
        S.due("edge 0", want);
        S.x.place(0, 15 * 24 + 12);
        S.due("train 0 2", want < 0 ? -12 : 15 * 24 + want);
        S.due("lane 0 4", want < 0 ? 15 * 24 + 12 : 15 * 24 + want);
    }

    private static void lags() {
        S.says("LAG of a LANE: the greatest DELAY of the MIDDLES of all LANES' RECTANGLES less its own");
        S.fresh(HEAD + LANE.repeat(6) + "passes:delay=lane*4+3;");
        for (int l = 0; l < 6; l++) {
            S.due("lag " + l, 20 - 4 * l);
        }
        S.fresh(HEAD + LANE + LANE + "passes:delay=lane*23;");
        S.run("lag 0 => 23\nlag 1 => 0\n");
        S.fresh(HEAD + LANE + LANE + "passes:delay=23-lane*23;");
        S.run("lag 0 => 0\nlag 1 => 23\nlag 2 => -2\nlag -1 => -2\n");
        S.fresh(HEAD + LANE + "passes:1=1;");
        S.run("lag 0 => 0\nlag 1 => -2\n");
        S.fresh(HEAD + LANE + LANE + "passes:delay=0;");
        S.run("lag 0 => 0\nlag 1 => 0\n");
        S.says("NONE: some LANE's MAP has no CELL; -2");
        for (int none = 0; none < 3; none++) {
            S.fresh(HEAD + LANE.repeat(3) + "passes:not lane=" + none + ";");
            S.run("lag 0 => -1\nlag 1 => -1\nlag 2 => -1\nlag 3 => -2\nlag -1 => -2\n");
        }
    }

    private static void buses() {
        S.says("The BUS: DELAYS at which all LANES PASS, each at the LEVEL of its POINT");
        S.fresh(HEAD + LANE.repeat(6) + "passes:level=lane or level=15 and delay=23 or level=14 and delay=0;");
        for (int l = 0; l < 6; l++) {
            S.x.place(l, 24 * l);
        }
        S.run("bus 0 => 16777215\nbus 1 => 24\nbus 2 => 0\nplace 5 383 => 1\nbus 0 => 8388608\nbus 1 => 1\nbus 2 => 23\n");
        S.run("place 5 336 => 1\nbus 0 => 1\nbus 1 => 1\nbus 2 => 0\n");
        S.says("its WINDOW: most of these next to one another, of like ones the first; (0), (NONE)");
        S.run("place 5 0 => 0\nbus 0 => 0\nbus 1 => 0\nbus 2 => -1\nbus 3 => -2\nbus -1 => -2\n");
        passing(1, row(0, 0, 3), row(0, 5, 9), row(0, 11, 15), row(0, 17, 20), row(0, 22, 23));
        S.run("bus 1 => 5\nbus 2 => 5\n");
        passing(1, row(0, 0, 1), row(0, 21, 23));
        S.run("bus 1 => 3\nbus 2 => 21\n");
        passing(1, row(0, 0, 2), row(0, 21, 23));
        S.run("bus 1 => 3\nbus 2 => 0\n");
        S.says("NONE: there are no LANES; -2");
        S.run("new\nbus 0 => -1\nbus 1 => -1\nbus 2 => -1\nbus 3 => -2\nbus -1 => -2\n");
    }

    // ---- patterns

    private static void harshest() {
        S.says("The PATTERN by whose STRESS the LANE PASSES in the fewest CELLS, the first");
        String four = HEAD + LANE + LANE + "pattern 1;pattern 2;pattern 3;pattern 4;drifts:time;passes:";
        S.fresh(four + "delay<stress;");
        S.due("harshest 0", 0);
        S.fresh(four + "not delay<stress;");
        S.due("harshest 0", 3);
        S.fresh(four + "lane=1 or delay=stress;");
        S.run("harshest 0 => 0\nharshest 1 => 0\n");
        S.fresh(four + "stress=1 or delay=4 and stress>2;");
        S.run("harshest 0 => 1\npattern 0 => -1\nharshest 0 => 1\n");
        S.fresh(four + "not stress=drift and not stress=drift+1;");
        S.run("harshest 0 => 0\nticks 1 => 2\nharshest 0 => 0\nticks 1 => 2\nharshest 0 => 1\nticks 2 => 2\nharshest 0 => 3\n");
        S.run("ticks 1 => 2\nharshest 0 => 0\nharshest 2 => -2\nharshest -1 => -2\n");
        // a single CELL decides, wherever it is
        for (int c : new int[] {0, 23, 24, 200, 359, 360, 383}) {
            S.fresh(four + "not[stress=3 and level*24+delay=" + c + "];");
            S.due("harshest 0", 2);
            S.due("tell 0 1", 4);
        }
        S.says("NONE: there are none; -2");
        S.fresh(HEAD + LANE);
        S.run("harshest 0 => -1\nharshest 1 => -2\nharshest -1 => -2\n");
    }

    private static void tells() {
        S.says("The fewest PATTERNS that TELL as much, what 0: how many (0 too), 1: which, as bits (of like ones the least; 0: none)");
        String four = HEAD + LANE + LANE + "pattern 1;pattern 2;pattern 3;pattern 4;passes:";
        S.fresh(four + "lane=0;");
        S.run("tell 0 0 => 0\ntell 0 1 => 0\ntell 1 0 => 1\ntell 1 1 => 1\n");
        S.fresh(four + "not delay=stress;");
        S.run("tell 0 0 => 4\ntell 0 1 => 15\n");
        S.fresh(four + "not delay=stress or stress=2;");
        S.run("tell 0 0 => 3\ntell 0 1 => 13\n");
        S.fresh(four + "not stress=4;");
        S.run("tell 0 0 => 1\ntell 0 1 => 8\n");
        S.fresh(four + "stress<3 and delay<9 or stress>2 and delay>3;");
        S.run("tell 0 0 => 2\ntell 0 1 => 5\n");
        S.fresh(four + "stress=1 or stress=2 and delay<9 or stress>2 and delay>3;");
        S.run("tell 0 0 => 2\ntell 0 1 => 6\n");
        // a single CELL at the very end tells them apart
        S.fresh(four + "not [stress=3 and level*24+delay=383];");
        S.run("tell 0 0 => 1\ntell 0 1 => 4\npattern 3 => -1\ntell 0 1 => 4\n");
        S.fresh(four + "not [stress=2 and level*24+delay=0] and not [stress=4 and level*24+delay=383];");
        S.run("tell 0 0 => 2\ntell 0 1 => 10\n");
        S.fresh(HEAD + LANE + "pattern 0;passes:stress=1;");
        S.run("tell 0 0 => 1\ntell 0 1 => 1\n");
        S.fresh(HEAD + LANE + "pattern 0;passes:stress=0;");
        S.run("tell 0 0 => 0\ntell 0 1 => 0\ntell 0 2 => -2\ntell 0 -1 => -2\ntell 1 0 => -2\ntell -1 0 => -2\n");
        S.says("NONE: there are no PATTERNS; -2");
        S.fresh(HEAD + LANE);
        S.run("tell 0 0 => -1\ntell 0 1 => -1\ntell 0 2 => -2\ntell 0 -1 => -2\ntell 1 0 => -2\ntell -1 1 => -2\n");
    }

    // ---- going

    private static void going() {
        S.says("Whether a LANE PASSES in its POINT behind n TICKS GOING (0 to 999)");
        S.fresh(HEAD + LANE + "drifts:if time=99 then 1 else if time=50 then 2 else 0 end end;passes:delay=drift;");
        S.run("later 0 0 => 1\nlater 0 49 => 1\nlater 0 50 => 0\nlater 0 51 => 1\nlater 0 98 => 1\nlater 0 99 => 0\n");
        S.run("later 0 998 => 1\nlater 0 999 => 0\nlater 0 1000 => -3\nlater 0 -1 => -3\nlater 1 -1 => -2\nlater -1 1000 => -2\n");
        S.run("place 0 1 => 0\nlater 0 998 => 0\nlater 0 999 => 1\ncount 4 => 0\n");
        S.says("GOING, behind how many TICKS (0: it doesn't now); NONE: not behind 999");
        S.run("holds 0 => 0\nplace 0 0 => 1\nholds 0 => 50\nticks 50 => 0\nholds 0 => 0\nticks 1 => 1\nholds 0 => 48\n");
        S.run("ticks 49 => 1\nholds 0 => 50\nholds 1 => -2\nholds -1 => -2\n");
        S.fresh(HEAD + LANE + "drifts:if time=99 then 1 else 0 end;passes:delay=0 and drift=0;");
        S.run("holds 0 => 99\nticks 1 => 1\nholds 0 => 98\nticks 97 => 1\nholds 0 => 1\nticks 1 => 0\nholds 0 => 0\n");
        S.run("ticks 1 => 1\nholds 0 => 99\nplace 0 1 => 0\nholds 0 => 0\n");
        S.fresh(HEAD + LANE + "drifts:if time=99 then 1 else 0 end;passes:delay=0;");
        S.run("holds 0 => -1\nplace 0 1 => 0\nholds 0 => 0\n");
        S.says("FOLLOWING, behind how many TICKS (0 too; each with its FOLLOWING) it first doesn't");
        S.fresh(HEAD + LANE + LANE + "drifts:time;passes:not delay<drift*2 and delay<drift*2+3+lane;");
        // rows 0 to 2, 2 to 4, 4 to 6: 1, then 1 isn't in 2 to 4
        S.run("place 0 1 => 1\nfollows 0 => 1\nplace 0 2 => 1\nfollows 0 => 2\nplace 0 3 => 0\nfollows 0 => 0\n");
        S.run("place 1 3 => 1\nfollows 1 => 2\ncount 4 => 0\nlane 1 4 => 3\nfollows 2 => -2\nfollows -1 => -2\n");
        S.says("FOLLOWING, the POINT of a LANE behind n TICKS (0 to 999)");
        S.run("place 0 2 => 1\nat 0 0 => 2\nat 0 1 => 3\nat 0 2 => 3\nat 0 999 => 3\nat 0 1000 => -3\nat 0 -1 => -3\n");
        S.run("at 2 1000 => -2\nat -1 -1 => -2\nat 1 0 => 3\nlane 0 4 => 2\ncount 4 => 0\n");
    }

    /**
     * A POINT at an even DELAY is brought 2 to the left in each 100 TICKS: at TIMES 4 to 23 (DRIFT -10 to 9) the row of
     * the even DELAYS has one more, or one of them a DELAY further left. At 2 it is lost at the TIME 99 (DRIFT -11).
     */
    private static final String SLOW = HEAD + LANE + "drifts:if time=99 then 0-11 else if time<4 or time>23 then 15 else time-14 end end;"
        + "passes:if delay=drift+13 then 1 else 0 end=if delay*(delay-2)*(delay-4)*(delay-6)*(delay-8)*(delay-10)*(delay-12)"
        + "*(delay-14)*(delay-16)*(delay-18)*(delay-20)*(delay-22)=0 then 0 else 1 end or delay=drift+12;";

    private static void goingFor999Ticks() {
        S.says("FOLLOWING: NONE: not behind 999");
        S.fresh(SLOW);
        S.run("place 0 22 => 1\nfollows 0 => 999\nat 0 23 => 20\nat 0 22 => 21\nat 0 899 => 4\nat 0 904 => 3\nat 0 905 => 2\n");
        S.run("place 0 20 => 1\nfollows 0 => 899\nplace 0 4 => 1\nfollows 0 => 99\nplace 0 22 => 1\nticks 1 => 1\nfollows 0 => 998\n");
        S.run("ticks 1 => 1\nfollows 0 => 997\nticks 97 => 1\nfollows 0 => -1\nplace 0 20 => 1\nfollows 0 => 900\n");
        S.says("FOLLOWING, the POINT behind n TICKS (0 to 999): 999, too");
        S.fresh(SLOW);
        S.run("ticks 6 => 1\nplace 0 22 => 1\nat 0 993 => 2\nat 0 997 => 2\nat 0 998 => 3\nat 0 999 => 2\nat 0 1000 => -3\n");
    }

    // ---- steps

    private static void firstWay(int from, int to, int across, int along) {
        S.x = new EyeTrainer();
        Calls.tell(S.x, HEAD + LANE + "passes:level*24+delay=" + to + ";");
        S.x.place(0, from);
        int delays = Math.abs(to % 24 - from % 24);
        int levels = Math.abs(to / 24 - from / 24);
        S.due("steps 0", delays + levels);
        for (int i = 0; i < delays + levels; i++) {
            S.due("way 0 " + i, i < delays ? across : along);
        }
        S.due("way 0 " + (delays + levels), -1);
        S.due("way 0 2147483647", -1);
        S.run("way 0 -1 => -3\nway 0 -2147483648 => -3\n");
    }

    private static void steps() {
        S.says("The fewest STEPS of a POINT till its LANE PASSES there; the i-th STEP (0 to 3) of the first such ROW");
        firstWay(0, 383, 1, 3);
        firstWay(383, 0, 0, 2);
        firstWay(23, 360, 0, 3);
        firstWay(360, 23, 1, 2);
        firstWay(0, 23, 1, 3);
        firstWay(360, 0, 0, 2);
        firstWay(100, 100, 0, 0);
        S.says("of like ROWS the first by these numbers");
        passing(1, "level*24+delay=7*24+9", "level*24+delay=7*24+13", "level*24+delay=5*24+11", "level*24+delay=9*24+11");
        S.run("place 0 179 => 0\nsteps 0 => 2\nway 0 0 => 0\nway 0 1 => 0\nway 0 2 => -1\n");
        passing(1, "level*24+delay=7*24+13", "level*24+delay=5*24+11", "level*24+delay=9*24+11");
        S.run("place 0 179 => 0\nway 0 0 => 1\nway 0 1 => 1\n");
        passing(1, "level*24+delay=5*24+11", "level*24+delay=9*24+11");
        S.run("place 0 179 => 0\nway 0 0 => 2\nway 0 1 => 2\n");
        passing(1, "level*24+delay=9*24+11", "level*24+delay=6*24+12");
        S.run("place 0 179 => 0\nway 0 0 => 1\nway 0 1 => 2\n");
        passing(1, "level*24+delay=9*24+11");
        S.run("place 0 179 => 0\nway 0 0 => 3\nway 0 1 => 3\n");
        S.says("the fewest STEPS: between two CELLS the nearer one");
        passing(1, "level*24+delay=0", "level*24+delay=3");
        S.run("place 0 2 => 0\nsteps 0 => 1\nway 0 0 => 1\nway 0 1 => -1\nplace 0 1 => 0\nway 0 0 => 0\n");
        passing(1, "level*24+delay=24", "level*24+delay=96");
        S.run("place 0 72 => 0\nsteps 0 => 1\nway 0 0 => 3\nplace 0 48 => 0\nway 0 0 => 2\n");
        S.says("a STEP within CELLS: no way from DELAY 0 to DELAY 23 of the LEVEL below, nor back");
        passing(1, "level*24+delay=23");
        S.run("place 0 24 => 0\nsteps 0 => 24\n");
        passing(1, "level*24+delay=24");
        S.run("place 0 23 => 0\nsteps 0 => 24\n");
        S.says("NONE: its MAP has no CELL; -2; NONE: not so many, there is none; -2; -3: i is below 0");
        passing(1, "1 = 2");
        S.run("steps 0 => -1\nsteps 1 => -2\nsteps -1 => -2\nway 0 0 => -1\nway 0 2147483647 => -1\nway 0 -1 => -3\nway 1 -1 => -2\n");
        S.run("way -1 0 => -2\nways 0 0 => 0\nways 0 20 => 0\nways 0 21 => -3\nways 0 -1 => -3\nways 1 21 => -2\nways -1 0 => -2\n");
    }

    /** How many rows of n steps, 1 less or more, there are from one place of so many, by where they end. */
    private static long[] line(int places, int from, int n) {
        long[] rows = new long[places];
        rows[from] = 1;
        for (int i = 0; i < n; i++) {
            long[] next = new long[places];
            for (int k = 0; k < places; k++) {
                next[k] = (k > 0 ? rows[k - 1] : 0) + (k < places - 1 ? rows[k + 1] : 0);
            }
            rows = next;
        }
        return rows;
    }

    /** Rows of n STEPS from one CELL to another: so many of the STEPS are DELAYS, in any order with the LEVELS. */
    private static long rowsOf(int from, int to, int n) {
        long sum = 0;
        long chosen = 1;
        for (int k = 0; k <= n; k++) {
            sum += chosen * line(24, from % 24, k)[to % 24] * line(16, from / 24, n - k)[to / 24];
            chosen = chosen * (n - k) / (k + 1);
        }
        return sum;
    }

    private static void ways() {
        S.says("How many ROWS of just n STEPS (0 to 20) there are behind which it PASSES");
        int[] places = {0, 23, 24, 179, 204, 359, 360, 383};
        for (int to : places) {
            passing(1, "level*24+delay=" + to);
            for (int from : places) {
                S.x.place(0, from);
                for (int n = 0; n <= 20; n += n < 2 || n > 17 ? 1 : 4) {
                    S.due("ways 0 " + n + " from " + from + " to " + to, S.x.ways(0, n), rowsOf(from, to, n));
                }
            }
        }
        passing(1, "1 = 1");
        for (int from : places) {
            long sum = 0;
            for (int to = 0; to < 384; to++) {
                sum += rowsOf(from, to, 20);
            }
            S.x.place(0, from);
            S.due("ways 0 20 from " + from, S.x.ways(0, 20), sum);
            S.due("ways 0 0", 1);
        }
        S.run("ways 0 21 => -3\nways 0 -1 => -3\nways 1 21 => -2\nways -1 -1 => -2\n");
    }

    // ---- seen

    private static void tray(int tray, int sort, long... numbers) {
        S.due("numbers", S.x.numbers(tray, sort, numbers.length), 0);
        for (int i = 0; i < numbers.length; i++) {
            S.due("write", S.x.write(tray, i, numbers[i]), numbers[i]);
        }
    }

    private static void seen() {
        S.says("DRIFTS -15 to 15, all else as now, by which it is so (as bits, bit k for DRIFT k - 15)");
        for (int drift = -15; drift <= 15; drift++) {
            S.fresh(HEAD + LANE + "drifts:7;passes:level*24+delay=drift+15;");
            tray(0, 3, 2 * (drift + 15) + 1);
            S.due("drifts 0 0", 1 << drift + 15);
            S.due("attempt 0 0", 0);
            tray(0, 3, 2 * (drift + 15));
            S.due("drifts 0 0", Integer.MAX_VALUE & ~(1 << drift + 15));
        }
        tray(1, 3, 2 * 31 + 1);
        S.due("drifts 1 0", 0);
        S.due("attempt 1 0", -1);
        S.says("SEEN: 1 to 8 numbers; -4: not 1 to 8 numbers; -3: one is below 0 or above 767");
        for (int n = 0; n <= 40; n++) {
            S.fresh(HEAD + LANE + "drifts:7;passes:level*24+delay=drift+15;");
            tray(2, 1, new long[n]);
            boolean fine = n >= 1 && n <= 8;
            S.due("drifts 2 0", fine ? Integer.MAX_VALUE - 1 : -4);
            S.due("attempt 2 0", fine ? 1 : -4);
        }
        S.fresh(HEAD + LANE + "drifts:7;passes:level*24+delay=drift+15;");
        seenNumbers();
        S.says("-6; -4: not 1 to 8 numbers; -3: of several that which the call tells first");
        S.run("new\ndrifts 0 0 => -2\nattempt 0 0 => -2\n");
        S.fresh(HEAD + LANE);
        S.run("drifts 0 0 => -6\nattempt 0 0 => -6\nnumbers 0 2 0 => 0\ndrifts 0 0 => -4\nattempt 0 0 => -4\n");
        S.run("numbers 0 2 9 => 0\nwrite 0 8 -1 => -1\ndrifts 0 0 => -4\nattempt 0 0 => -4\ndrifts 0 1 => -2\nattempt 4 0 => -2\n");
        S.run("drifts 3 1 => -2\nattempt 3 -1 => -2\n");
        S.says("all these ahead of NONE: by 1 there is no DRIFT, but 768 can't be");
        S.fresh(HEAD + LANE + "passes:1=2;");
        tray(0, 3, 1);
        S.run("drifts 0 0 => 0\nattempt 0 0 => -1\nattempt 0 1 => -2\nattempt 1 0 => -6\n");
        tray(0, 3, 1, 768);
        S.run("drifts 0 0 => -3\nattempt 0 0 => -3\n");
        tray(0, 3, 1, 0, 0, 0, 0, 0, 0, 0, 0);
        S.run("drifts 0 0 => -4\nattempt 0 0 => -4\n");
        S.says("2 times a CELL, and 1 if the LANE passed there, else 0: CELLS 0 and 383");
        S.fresh(HEAD + LANE + "pattern 3;passes:level*24+delay=383 and drift=15 or level*24+delay=0 and drift+15=0 and stress=0;");
        tray(0, 2, 767);
        S.due("drifts 0 0", 1 << 30);
        tray(0, 2, 766);
        S.due("drifts 0 0", (1 << 30) - 1);
        tray(0, 2, 1);
        S.due("drifts 0 0", 1);
        S.run("pattern 0 => -1\ndrifts 0 0 => 0\npattern -1 => 0\n");
        tray(0, 2, 0, 766, 0, 766, 0, 766, 0, 766);
        S.due("drifts 0 0", (1 << 30) - 2);
        tray(0, 2, 0, 0, 0, 0, 0, 0, 0, 1);
        S.due("drifts 0 0", 0);
    }

    private static void seenNumbers() {
        for (long v : new long[] {-1, 0, 767, 768, 769, Long.MIN_VALUE, Long.MAX_VALUE, 1L << 32, (1L << 32) + 1, -1L << 32, 65536}) {
            boolean fine = v >= 0 && v <= 767;
            for (int at = 0; at < 8; at += 7) {
                long[] numbers = new long[8];
                numbers[at] = v;
                tray(2, 3, numbers);
                S.due("drifts with " + v, S.x.drifts(2, 0), fine ? Integer.MAX_VALUE - 1 & (v == 767 ? 0 : -1) : -3);
                S.due("attempt with " + v, S.x.attempt(2, 0), fine ? v == 767 ? -1 : 1 : -3);
            }
        }
    }

    private static void attempts() {
        S.says("the greater number of these DRIFTS by which the LANE passes there, or doesn't, is least, the first");
        S.fresh(HEAD + LANE + "passes:level*24+delay=383 and drift>0;");
        tray(0, 0, 0);
        S.run("drifts 0 0 => 2147483647\nattempt 0 0 => 383\n");
        S.fresh(HEAD + LANE + "passes:not[level*24+delay=382 and drift>0];");
        tray(0, 0, 1);
        S.due("attempt 0 0", 382);
        for (int c : new int[] {0, 1, 22, 23, 24, 192, 359, 360, 383}) {
            S.fresh(HEAD + LANE + "passes:level*24+delay=" + c + " and drift>0;");
            tray(0, 1, 2 * 100);
            S.run("drifts 0 0 => 2147483647\nattempt 0 0 => " + c + "\n");
        }
        // 15 against 16 by CELL 9, 16 against 15 by CELL 5: as good, the first
        S.fresh(HEAD + LANE + "passes:level*24+delay=9 and drift>0 or level*24+delay=5 and not drift<0;");
        tray(0, 0, 0);
        S.due("attempt 0 0", 5);
        S.fresh(HEAD + LANE + "passes:level*24+delay=9 and not drift<0 or level*24+delay=5 and drift<0;");
        tray(0, 0, 0);
        S.due("attempt 0 0", 5);
        S.fresh(HEAD + LANE + "passes:level*24+delay=9 and drift>0 or level*24+delay=5 and drift>1;");
        tray(0, 0, 0);
        S.due("attempt 0 0", 9);
        S.fresh(HEAD + LANE + "passes:level*24+delay=9 and drift>0 or level*24+delay=5 and drift+3>0;");
        tray(0, 0, 0);
        S.due("attempt 0 0", 9);
        S.fresh(HEAD + LANE + "passes:1=1;");
        tray(0, 0, 1);
        S.run("drifts 0 0 => 2147483647\nattempt 0 0 => 0\n");
        tray(0, 0, 0);
        S.run("drifts 0 0 => 0\nattempt 0 0 => -1\n");
    }

    // ---- chances

    /** All rows of n lots, one by one: behind how many of these a DELAY is in the row. */
    private static long lots(int bits, int delay, int n) {
        if (n == 0) {
            return bits >> delay & 1;
        }
        long sum = 0;
        for (int lot = 0; lot < 10; lot++) {
            int next = lot == 0 ? Math.max(delay - 1, 0) : lot == 1 ? Math.min(delay + 1, 23) : delay;
            sum += lots(bits, next, n - 1);
        }
        return sum;
    }

    private static void fraction(String call, long above, int n) {
        long below = (long) Math.pow(10, n);
        long g = below;
        while (above % g != 0 || below % g != 0) {
            g--;
        }
        S.due(call + " 0", above / g);
        S.due(call + " 1", below / g);
    }

    private static void chances() {
        S.says("by lot 0 all DELAYS of POINTS are 1 less (0 at least), by lot 1 1 more (23 at most), by others they stay");
        int[] rows = {1, 2, 1 << 22, 1 << 23, ALL, 0, 0x5a5a5a, 1 << 6, 0xf};
        for (int bits : rows) {
            StringBuilder law = new StringBuilder("1=2");
            for (int d = 0; d < 24; d++) {
                law.append((bits >> d & 1) != 0 ? " or delay=" + d : "");
            }
            for (int delay : new int[] {0, 1, 5, 12, 22, 23}) {
                S.fresh(HEAD + LANE + "passes:level=15 and[" + law + "];");
                S.x.place(0, 15 * 24 + delay);
                for (int n = 0; n <= 4; n++) {
                    fraction("chance 0 " + n, lots(bits, delay, n), n);
                    fraction("mean " + n, lots(bits, delay, n), n);
                }
            }
        }
        S.says("CHANCE behind n moments (0 to 6), in lowest terms");
        S.fresh(HEAD + LANE + "passes:delay=6;");
        S.run("chance 0 5 0 => 0\nchance 0 5 1 => 1\nchance 0 6 0 => 1\nchance 0 6 1 => 1000000\nchance 0 7 0 => -3\n");
        S.run("chance 0 -1 0 => -3\nchance 0 7 2 => -2\nchance 0 -1 -1 => -2\nchance 1 7 0 => -2\nchance -1 0 0 => -2\nchance 0 0 2 => -2\n");
        fraction("chance 0 6", lots(1 << 6, 0, 6), 6);
        S.run("place 0 6 => 1\nchance 0 0 0 => 1\nchance 0 0 1 => 1\n");
        fraction("chance 0 6", lots(1 << 6, 6, 6), 6);
        S.fresh(HEAD + LANE + "passes:1=1;");
        S.run("chance 0 6 0 => 1\nchance 0 6 1 => 1\nchance 0 0 0 => 1\nlane 0 4 => 0\ncount 4 => 0\n");
    }

    private static void means() {
        S.says("How many LANES PASS on the mean behind n moments (0 to 6), what 0: above, 1: below, in lowest terms");
        S.fresh(HEAD + LANE.repeat(6) + "passes:1=1;");
        S.run("mean 0 0 => 6\nmean 0 1 => 1\nmean 6 0 => 6\nmean 6 1 => 1\nmean 7 0 => -3\nmean -1 0 => -3\nmean 7 2 => -2\nmean -1 -1 => -2\n");
        S.fresh(HEAD + LANE.repeat(6) + "passes:lane=5 and delay=6;");
        S.run("mean 5 0 => 0\nmean 5 1 => 1\nmean 6 0 => 1\nmean 6 1 => 1000000\n");
        S.fresh(HEAD + LANE.repeat(6) + "passes:delay=6;");
        S.run("mean 6 0 => 3\nmean 6 1 => 500000\nplace 0 6 => 1\nmean 0 0 => 1\nmean 1 0 => 4\nmean 1 1 => 5\n");
        S.fresh(HEAD + LANE.repeat(3) + "passes:delay=0;");
        S.run("mean 1 0 => 27\nmean 1 1 => 10\n");
        S.run("new\nmean 0 0 => 0\nmean 0 1 => 1\nmean 6 0 => 0\nmean 6 1 => 1\nmean 7 0 => -3\nmean 0 2 => -2\nmean 7 -1 => -2\n");
    }
}
