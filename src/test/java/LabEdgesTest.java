import java.util.Arrays;

/**
 * The boundary cases that the document names of THE LAB: the tape, the text, its TOKENS and FAULTS, the numbers of its
 * laws. Each is told with its sentence.
 */
public final class LabEdgesTest {
    private static final String HEAD = "lab aspect 1 hold 1;";
    private static final String LANE = "lane at 0 level 0 wide 1 high 1;";
    private static final String SIGNS = ";:+-*()[]=<>";
    private static final int BLANKS = 0x20202020;
    private static final int[] FAR = {Integer.MIN_VALUE, Integer.MIN_VALUE + 1, -65536, -256, -2, -1, 65536, 1 << 24,
        Integer.MAX_VALUE - 1, Integer.MAX_VALUE};

    private static final Script S = new Script();

    public static void main(String[] args) {
        tapeIsFull();
        highestByteFirst();
        howMuchIsRead();
        allIsNewBehindALab();
        allStaysWithAFault();
        whatFaultTells();
        withoutAText();
        longestTexts();
        longTextBehindLongText();
        numbersInTheirBounds();
        howManyLanesAndPatterns();
        laterLawsStrike();
        tokensByTheirBytes();
        wordsAsLongAsTheyGoOn();
        digits();
        leastKind();
        firstAlongTheText();
        nearTexts();
        whatCannotStand();
        theEnd();
        wordsOfLaws();
        sumsAndTruths();
        sixWithinOneAnother();
        keptWithinAMillion();
        timeByItsRest();
        S.end("the edges of the lab");
    }

    private static int feedBlanks() {
        return S.x.feed(BLANKS, BLANKS, BLANKS, BLANKS, BLANKS);
    }

    // ---- the tape

    private static void tapeIsFull() {
        S.says("-5: it would have more than 900");
        S.x = new EyeTrainer();
        for (int i = 1; i <= 45; i++) {
            S.due("feed " + i, feedBlanks(), 20 * i);
        }
        S.run("feed 0 0 0 0 0 => -5\nfeed -1 -1 -1 -1 -1 => -5\ncount 8 => 900\n");
        // Had a byte of what was refused been put anywhere, it would be a FAULT of kind 1.
        S.run("lab 900 => -32\nfault 1 => 900\ncount 8 => 0\n");
        S.due("feed of an empty tape", feedBlanks(), 20);
        S.says("THE TAPE (which is empty then)");
        for (int i = 2; i <= 45; i++) {
            feedBlanks();
        }
        S.run("feed 0 0 0 0 0 => -5\nlab 0 => -32\ncount 8 => 0\nfeed 0 0 0 0 0 => 20\nlab 1 => -31\ncount 8 => 0\n");
    }

    private static void highestByteFirst() {
        S.says("Twenty bytes come behind those on THE TAPE, the highest of each int first");
        for (int place = 0; place < 40; place++) {
            int[] ints = new int[10];
            for (int i = 0; i < 10; i++) {
                ints[i] = BLANKS;
            }
            // A byte above 127 makes its int a negative one, or must not spoil the bytes ahead of it.
            ints[place / 4] = BLANKS & ~(255 << 24 - place % 4 * 8) | 200 << 24 - place % 4 * 8;
            S.x = new EyeTrainer();
            S.x.feed(ints[0], ints[1], ints[2], ints[3], ints[4]);
            S.due("feed", S.x.feed(ints[5], ints[6], ints[7], ints[8], ints[9]), 40);
            S.due("a bad byte at " + place, S.x.lab(40), -31);
            S.due("its place", S.x.fault(1), place);
        }
        S.run("new\nfeed 1818321440 1634955365 1668554801 543715180 1679831355 => 20\nlab 20 => 1\n");
    }

    private static void howMuchIsRead() {
        S.says("-3: n is below 0 or above what there is (THE TAPE stays)");
        S.run("new\nlab -1 => -3\nlab 1 => -3\nfault 0 => 0\n");
        for (int n : FAR) {
            S.due("lab " + n, S.x.lab(n), -3);
        }
        S.run("feed 1818321440 1634955365 1668554801 543715180 1679831355 => 20\n");
        for (int n : FAR) {
            S.due("lab " + n, S.x.lab(n), -3);
        }
        S.run("lab 21 => -3\nlab -1 => -3\ncount 8 => 20\nfault 0 => 0\nlab 20 => 1\ncount 8 => 0\n");
        S.says("The first n bytes of THE TAPE");
        S.run("feed 1818321440 1634955365 1668554801 543715180 1679831355 => 20\nfeed 0 0 0 0 0 => 40\nlab 20 => 1\n");
        S.run("count 8 => 0\nlab 1 => -3\nfeed 1818321440 1634955365 1668554801 543715180 1679831355 => 20\n");
        S.run("feed 0 0 0 0 0 => 40\nlab 21 => -31\nfault 1 => 20\n");
        S.run("feed 1818321440 1634955365 1668554801 543715180 1679831355 => 20\nlab 19 => -32\nfault 1 => 19\n");
        S.says("The first n bytes of THE TAPE: a TOKEN ends there, whatever stands behind on THE TAPE");
        String[] cut = {"lab aspect 1", "lab", "lab aspect 1 hold", HEAD + "drifts:time", HEAD + "drifts:99", HEAD + "pattern"};
        for (String text : cut) {
            for (String behind : new String[] {"x", "0", "00", ";", " ", "", "!"}) {
                S.x = new EyeTrainer();
                for (long[] f : Calls.feeds(text + behind)) {
                    Calls.call(S.x, "feed", f);
                }
                S.due(text + " cut off", S.x.lab(text.length()), -32);
                S.due("its place", S.x.fault(1), text.length());
            }
        }
        S.says("THE TAPE (which is empty then): what stood on it has no part in a later text");
        S.run("new\ntell " + HEAD + "drifts:timexxxxxxxxx0000000000xxxxxxxxxx0000000000; => -32\n");
        S.due("a word at the end", Calls.tell(S.x, "lab aspect 1 hold  1;lane at 0 level 0 wide"), -32);
        S.run("fault 1 => 43\n");
        S.due("a number at the end", Calls.tell(S.x, "lab aspect 1 hold  1;lane at 0 level 0 wide  1 high 1;pattern 1"), -32);
        S.run("fault 1 => 63\ncount 0 => 0\n");
        S.says("lab(0): an empty text");
        S.run("new\nlab 0 => -32\nfault 0 => 2\nfault 1 => 0\n");
    }

    private static void allIsNewBehindALab() {
        S.says("POINTS are CELL 0, the TIME is 0, no PATTERN is in use, nothing can be UNDONE: how many LINES (lab, too");
        String text = HEAD + LANE.repeat(6) + "pattern 3;drifts : 2;edge : 1 = 1;passes : 1 = 1;";
        S.run("new\ntell " + text + " => 11\n" + """
            place 0 383 => 1
            place 5 1 => 1
            pattern 0 => -1
            ticks 99 => 6
            count 7 => 4
            """ + "tell " + text + " => 11\n" + """
            lane 0 4 => 0
            lane 5 4 => 0
            count 4 => 0
            count 5 => -1
            count 7 => 0
            undo 1 => -3
            count 9 => 11
            place 5 1 => 1
            """ + "tell " + HEAD + LANE + " => 2\n" + """
            count 0 => 1        # nothing of the former LAB is left
            count 1 => 0
            drift 0 => 0
            area 0 => 1
            risen 0 => 16777215
            lane 1 0 => -2
            stress 0 => -2
            pattern 0 => -11
            """ + "tell " + text + " => 11\nlane 5 4 => 0\ntell " + HEAD + " => 1\ncount 0 => 0\ncount 9 => 1\n");
    }

    private static void allStaysWithAFault() {
        S.says("all stays with a FAULT");
        S.run("new\ntell lab aspect 9 hold 8;" + LANE + LANE + "pattern 3;drifts : 2;edge : delay > 3;passes : delay < 9; => 7\n"
            + """
            place 1 50 => 1
            pattern 0 => -1
            ticks 99 => 2
            """);
        // The FAULT is the last thing in the text, so that all ahead of it has been read.
        S.run("tell lab aspect 1 hold 1;lane at 1 level 1 wide 1 high 1;pattern 0;drifts : 0;edge : 1 = 2;passes : 1 = 2;x => -32\n"
            + """
            fault 1 => 101
            count 0 => 2
            count 1 => 1
            count 2 => 9
            count 3 => 8
            count 4 => 99
            count 5 => 0
            count 6 => 3
            count 7 => 3
            count 8 => 0
            count 9 => 7
            lane 0 0 => 0
            lane 1 4 => 50
            stress 0 => 3
            drift 0 => 2
            risen 0 => 16777200
            row 0 15 => 511
            undo 3 => 0
            count 5 => -1
            """);
    }

    private static void whatFaultTells() {
        S.says("Of the latest lab() that was read, what 0: its FAULT (0), 1: its place (NONE). NONE for others");
        for (int text = 0; text < 3; text++) {
            S.x = new EyeTrainer();
            if (text == 1) {
                Calls.tell(S.x, "lab aspect 0");
            } else if (text == 2) {
                Calls.tell(S.x, HEAD);
            }
            S.due("fault 0", text == 1 ? 3 : 0);
            S.due("fault 1", text == 1 ? 11 : -1);
            S.due("fault 2", -1);
            for (int what : FAR) {
                S.due("fault " + what, -1);
            }
        }
        S.run("new\ntell lab; => -32\nlab 1 => -3\nlab -1 => -3\nfault 0 => 2\nfault 1 => 3\ntell " + HEAD + "; => -32\n");
        S.run("fault 1 => 20\ntell " + HEAD + " => 1\nfault 0 => 0\nfault 1 => -1\nlab 1 => -3\nfault 0 => 0\n");
    }

    // ---- the text

    private static void withoutAText() {
        S.says("without one: ASPECT 1, HOLD 1, no LANES, no PATTERNS");
        S.run("new\ncount 0 => 0\ncount 1 => 0\ncount 2 => 1\ncount 3 => 1\ncount 9 => 0\nlane 0 0 => -2\nstress 0 => -2\n");
        S.run("drift 0 => 0\ndrift 9999 => 0\ncount 4 => 0\ncount 5 => -1\ncount 6 => 0\n");
        S.says("{ LINE ; }: none, too");
        S.readable(HEAD, 1);
        S.readable("lab aspect9hold9;", 1);
        S.readable("\n lab\naspect 9\nhold\n9\n;\n ", 1);
    }

    private static void longestTexts() {
        S.says("THE LAB is a TEXT of at most 900 bytes");
        String full = HEAD + "drifts:" + "1+".repeat(435) + "1 ;";
        S.due("the text's length", full.length(), 900);
        S.readable(full, 2);
        S.due("drift 0", 15);
        S.fault(2, 899, full.substring(0, 899));
        S.fault(2, 900, full.substring(0, 899) + " ");
        S.fault(1, 899, full.substring(0, 899) + "!");
        S.says("the most LINES that can be: 99");
        S.readable("lab aspect1hold1;" + "edge:1=1;".repeat(98), 99);
        S.says("the longest laws");
        S.readable(HEAD + "edge:" + "1=1or ".repeat(141) + "1=2;", 2);
        S.readable(HEAD + "passes:" + "1=1and ".repeat(123) + "1=2;", 2);
        S.fresh(HEAD + LANE + "passes:" + "1=1and ".repeat(119) + "1=2;");
        S.due("area 0", 0);
        S.fresh(HEAD + LANE + "passes:" + "1=2or ".repeat(139) + "1=1;");
        S.due("area 0", 384);
        S.readable(HEAD + "drifts:" + "1*".repeat(435) + "2;", 2);
        S.due("drift 0", 2);
        S.readable(HEAD + "drifts:1" + "-0".repeat(435) + ";", 2);
        S.due("drift 0", 1);
        S.readable(HEAD + "edge:" + "0+".repeat(216) + "0=" + "0+".repeat(217) + "0;", 2);
    }

    private static void longTextBehindLongText() {
        S.says("THE LAB is a TEXT of at most 900 bytes: as many of these as an object can be told");
        S.x = new EyeTrainer();
        for (int i = 1; i <= 10; i++) {
            String text = HEAD + "drifts:if " + "1=1and ".repeat(30) + "1=2then 1 else " + "1*".repeat(200) + i + " end;";
            text += "drifts:" + "1-1+".repeat((900 - text.length() - 9) / 4 - 1) + i + ";";
            S.due("text " + i, Calls.tell(S.x, text), 3);
            S.due("drift 0", i);
            S.due("drift 9999", i);
        }
    }

    /** A text with N where an & stands; which call tells what was read. */
    private static void inBounds(String text, int least, int greatest, String told) {
        int place = text.indexOf('&');
        for (int v = 0; v <= 999; v++) {
            for (int zeros = 0; zeros < 3; zeros++) {
                String digits = "0".repeat(zeros) + v;
                if (digits.length() > 3) {
                    continue;
                }
                String one = text.replace("&", digits);
                if (v < least || v > greatest) {
                    S.fault(3, place, one);
                } else {
                    S.fresh(one);
                    S.due(told, v);
                }
            }
        }
        S.fault(1, place, text.replace("&", "1000"));
        S.fault(1, place, text.replace("&", "0001"));
        S.fault(2, place, text.replace("&", "-1"));
        S.fault(2, place, text.replace("&", "(1)"));
        S.fault(2, place, text.replace("&", "x"));
        S.fault(2, place, text.substring(0, place));
    }

    private static void numbersInTheirBounds() {
        S.says("the ASPECT, 1 to 9");
        inBounds("lab aspect & hold 1;", 1, 9, "count 2");
        S.says("HOLD, 1 to 9");
        inBounds("lab aspect 1 hold &;", 1, 9, "count 3");
        S.says("its AT, 0 to 23");
        inBounds(HEAD + "lane at & level 0 wide 1 high 1;", 0, 23, "lane 0 0");
        S.says("its MID, 0 to 15");
        inBounds(HEAD + "lane at 0 level & wide 1 high 1;", 0, 15, "lane 0 1");
        S.says("WIDE, 1 to 24");
        inBounds(HEAD + "lane at 0 level 0 wide & high 1;", 1, 24, "lane 0 2");
        S.says("HIGH, 1 to 16");
        inBounds(HEAD + "lane at 0 level 0 wide 1 high &;", 1, 16, "lane 0 3");
        S.says("its STRESS, 0 to 9");
        inBounds(HEAD + "pattern &;", 0, 9, "stress 0");
        S.says("N (1 to 3 digits): in laws all of them");
        S.fresh(HEAD + "drifts : 999 - 990;");
        S.due("drift 0", 9);
        S.fresh(HEAD + "drifts : 000 + 01 + 002;");
        S.due("drift 0", 3);
    }

    private static void howManyLanesAndPatterns() {
        S.says("numbered from 0 on, 6 at most");
        for (int n = 0; n <= 6; n++) {
            StringBuilder text = new StringBuilder(HEAD);
            for (int l = 0; l < n; l++) {
                text.append("lane at ").append(10 + l).append(" level ").append(l).append(" wide 1 high 1;");
            }
            S.readable(text.toString(), n + 1);
            S.due("count 0", n);
            for (int l = 0; l < n; l++) {
                S.due("lane " + l + " 0", 10 + l);
                S.due("lane " + l + " 1", l);
            }
            S.due("lane " + n + " 0", -2);
        }
        S.faultAt(4, HEAD + LANE.repeat(6) + "@" + LANE);
        S.faultAt(4, HEAD + LANE.repeat(6) + "pattern 1; @lane x");
        S.faultAt(4, HEAD + LANE.repeat(6) + "@lane");
        S.says("numbered from 0 on, 4 at most");
        for (int n = 0; n <= 4; n++) {
            StringBuilder text = new StringBuilder(HEAD);
            for (int p = 0; p < n; p++) {
                text.append("pattern ").append(9 - p).append(';');
            }
            S.readable(text.toString(), n + 1);
            S.due("count 1", n);
            for (int p = 0; p < n; p++) {
                S.due("stress " + p, 9 - p);
            }
            S.due("stress " + n, -2);
        }
        S.faultAt(4, HEAD + "pattern 1;".repeat(4) + "@pattern 1;");
        S.faultAt(4, HEAD + "pattern 1;".repeat(4) + LANE + "@pattern 99;");
        S.faultAt(4, HEAD + "pattern 1;".repeat(4) + "@pattern");
        S.readable(HEAD + (LANE + "pattern 1;").repeat(4) + LANE + LANE, 11);
    }

    private static void laterLawsStrike() {
        S.says("Later ones of passes, edge, drifts strike");
        S.fresh(HEAD + LANE + "passes : 1 = 2;passes : delay = 0;drifts : 3;drifts : 0 - 3;edge : 1 = 1;edge : delay > 9;");
        S.run("area 0 => 16\ndrift 0 => -3\nrisen 0 => 16776192\n");
        S.fresh(HEAD + LANE + "passes : 1 = 1;edge : 1 = 1;drifts : 7;drifts : 8;passes : 1 = 2;edge : 1 = 2;drifts : 9;");
        S.run("area 0 => 0\ndrift 0 => 9\nrisen 0 => 0\n");
        S.fresh(HEAD + "edge:delay=1;" + LANE + "passes:level=1;");
        S.run("drift 0 => 0\nrisen 0 => 2\narea 0 => 24\n");
    }

    // ---- tokens

    private static int faultOf(int sign) {
        boolean small = sign >= 'a' && sign <= 'z';
        boolean digit = sign >= '0' && sign <= '9';
        return sign == 10 || sign == 32 ? 0 : small || digit || SIGNS.indexOf((char) sign) >= 0 ? 2 : 1;
    }

    private static void tokensByTheirBytes() {
        S.says("between them blanks (10, 32): words (small letters), N (1 to 3 digits), the signs ; : + - * ( ) [ ] = < >");
        for (int sign = 0; sign < 256; sign++) {
            String one = String.valueOf((char) sign);
            boolean small = sign >= 'a' && sign <= 'z';
            boolean digit = sign >= '0' && sign <= '9';
            if (faultOf(sign) == 0) {
                S.readable(HEAD + one, 1);
                S.readable(one + HEAD, 1);
                S.readable("lab" + one + "aspect 1 hold 1;", 1);
                S.readable("lab aspect 1" + one + "hold 1;", 1);
            } else {
                S.fault(faultOf(sign), 20, HEAD + one);
                S.fault(faultOf(sign), 0, one + HEAD);
                S.fault(faultOf(sign), small ? 0 : 3, "lab" + one + "aspect 1 hold 1;");
                S.fault(digit ? 3 : faultOf(sign), digit ? 11 : 12, "lab aspect 1" + one + "hold 1;");
            }
        }
    }

    private static void wordsAsLongAsTheyGoOn() {
        S.says("TOKENS, as long as they go on");
        String all = "lab aspect 1 hold 1 ; lane at 0 level 0 wide 1 high 1 ; pattern 1 ; passes : not delay + level = lane and "
            + "stress < drift or 1 = if 1 = 1 then 2 else 3 end ; edge : 1 > 2 ; drifts : time ;";
        S.readable(all, 6);
        String[] words = all.split(" ");
        int place = 0;
        for (int i = 0; i < words.length; i++) {
            String ahead = all.substring(0, place);
            String behind = all.substring(place + words[i].length());
            if (words[i].matches("[a-z]+")) {
                S.fault(2, place, ahead + words[i] + "x" + behind);
                S.fault(2, place, ahead + "x" + words[i] + behind);
                S.fault(2, place, ahead + words[i].substring(1) + behind);
                S.fault(2, place, ahead + words[i].substring(0, 1) + " " + words[i].substring(1) + behind);
                S.fault(2, place, ahead + words[i].substring(0, words[i].length() - 1) + behind);
                S.fault(1, place, ahead + words[i].substring(0, 1).toUpperCase() + words[i].substring(1) + behind);
                // the word ends ahead of what no TOKEN begins with: it is the first that can't stand
                S.fault(2, place, ahead + words[i].substring(0, 1) + "_" + words[i].substring(1) + behind);
            }
            place += words[i].length() + 1;
        }
        S.readable("lab aspect1hold2;lane at3level4wide5high6;pattern7;drifts:if1=1then2else3end;passes:not1=2and not2=3;", 5);
        S.run("count 2 => 1\ncount 3 => 2\nlane 0 0 => 3\nlane 0 1 => 4\nlane 0 2 => 5\nlane 0 3 => 6\nstress 0 => 7\ndrift 0 => 2\n");
        S.faultAt(2, "@labaspect 1 hold 1;");
        S.faultAt(2, HEAD + "passes : 1 = 1 @ornot 1 = 1;");
        S.faultAt(2, HEAD + "drifts : 1 @2;");
        S.faultAt(2, HEAD + "lane at 1 @2 level 0 wide 1 high 1;");
        S.faultAt(2, HEAD + "passes : 1 < @= 2;");
    }

    private static void digits() {
        S.says("1 no TOKEN begins so (4 digits and more: at their first)");
        S.readable(HEAD + "drifts : 100 * 0;", 2);
        for (String many : new String[] {"0000", "1000", "9999", "00001", "12345678901234567890", "4294967296", "4294967297"}) {
            S.faultAt(1, HEAD + "drifts : @" + many + ";");
            S.faultAt(1, "lab aspect @" + many + " hold 1;");
            S.faultAt(1, HEAD + "@" + many);
        }
        S.faultAt(1, "@" + "1".repeat(900));
        S.faultAt(1, "lab aspect @0001hold 1;");
    }

    // ---- faults

    private static void leastKind() {
        S.says("FAULTS, of one TOKEN the least kind");
        S.faultAt(1, "lab @1000 1 hold 1;");
        S.faultAt(1, "lab @! 1;");
        S.faultAt(1, "lab aspect @1000 hold 1;");
        S.faultAt(2, "lab @99 aspect;");
        S.faultAt(2, "lab aspect @hold 99;");
        S.faultAt(2, HEAD + LANE.repeat(6) + "pattern @lane;");
        S.faultAt(2, HEAD + LANE.repeat(6) + "passes : 1 = 1 @lane at 1;");
        S.faultAt(2, HEAD + "pattern 1;".repeat(4) + "drifts : @pattern 1;");
        S.faultAt(2, HEAD + "passes : ((((((@[1 = 1];");
        S.faultAt(2, HEAD + "passes : ((((((@not 1 = 1;");
        S.faultAt(2, HEAD + "passes : [[[[[[1 @(1) = 1;");
        S.faultAt(2, HEAD + "passes : [[[[[[1 = 1 @[1 = 1];");
        S.faultAt(2, HEAD + "passes : [[[[[[1 = 1 @not 1 = 1;");
        S.faultAt(2, HEAD + "passes : [[[[[[1 = 1 @if 1 = 1 then 1 else 1 end;");
        S.faultAt(2, HEAD + "drifts : ((((((1 @(1;");
        S.faultAt(2, HEAD + "drifts : ((((((1))))))@(1;");
    }

    private static void firstAlongTheText() {
        S.says("FAULTS, the first along the text");
        S.faultAt(2, "@; lab aspect 1000 !");
        S.faultAt(1, "@! lab aspect 0;");
        S.faultAt(3, "lab aspect @0 hold 1000;");
        S.faultAt(3, "lab aspect @0 hold 0 !");
        S.faultAt(3, "lab aspect 1 hold @0 !");
        S.faultAt(2, "lab @hold 0 aspect 1000 !;");
        S.faultAt(4, HEAD + LANE.repeat(6) + "@lane at 99 !;");
        S.faultAt(3, HEAD + LANE.repeat(5) + "lane at @99 level 0 wide 1 high 1;" + LANE);
        S.faultAt(4, HEAD + "pattern 1;".repeat(4) + "@pattern 10;!");
        S.faultAt(4, HEAD + "drifts : ((((((@((1000)!");
        S.faultAt(1, HEAD + "drifts : ((((((@1000((1)");
        S.faultAt(3, HEAD + "lane at @24 level 16 wide 0 high 0;");
        S.faultAt(3, HEAD + "lane at 23 level @16 wide 0 high 0;");
        S.faultAt(3, HEAD + "lane at 23 level 15 wide @0 high 0;");
        S.faultAt(1, HEAD + "lane at 23 level 15 wide 1 @_high 0;");
    }

    /** Texts that differ from a right one by one TOKEN: each is held against the model's reading. */
    private static void nearTexts() {
        S.says("2 it can't stand there: every TOKEN in place of every other, ahead of it, and left out");
        String right = "lab aspect 1 hold 1 ; lane at 0 level 0 wide 1 high 1 ; pattern 1 ; passes : not [ delay + level = lane ] and "
            + "stress < drift or 1 = ( 2 ) - 1 ; edge : 1 > 2 * delay ; drifts : time + if 1 = 1 then 2 else 3 end ;";
        String[] tokens = right.split(" ");
        String every = "lab aspect hold lane at level wide high pattern passes edge drifts not or and if then else end delay stress drift "
            + "time mid ; : + - * ( ) [ ] = < > 0 1 9 10 16 24 25 999 1000 ! A";
        for (int i = 0; i <= tokens.length; i++) {
            String ahead = String.join(" ", Arrays.copyOfRange(tokens, 0, i));
            String from = String.join(" ", Arrays.copyOfRange(tokens, i, tokens.length));
            String behind = String.join(" ", Arrays.copyOfRange(tokens, Math.min(i + 1, tokens.length), tokens.length));
            asTheModelReads(ahead + " " + behind);
            for (String other : every.split(" ")) {
                asTheModelReads(ahead + " " + other + " " + behind);
                asTheModelReads(ahead + " " + other + " " + from);
            }
        }
    }

    private static void asTheModelReads(String text) {
        Model model = new Model();
        for (long[] f : Calls.feeds(text)) {
            model.call("feed", f);
        }
        long lines = model.call("lab", text.length());
        if (lines < 0) {
            S.fault((int) model.call("fault", 0), (int) model.call("fault", 1), text);
        } else {
            S.readable(text, (int) lines);
        }
    }

    private static void whatCannotStand() {
        S.says("lab must be told first, and once");
        S.faultAt(2, "@lane at 0 level 0 wide 1 high 1;" + HEAD);
        S.faultAt(2, "@;" + HEAD);
        S.faultAt(2, "@aspect 1 hold 1;");
        S.faultAt(2, HEAD + "@" + HEAD);
        S.faultAt(2, HEAD + LANE + "pattern 1;drifts : 1;@" + HEAD);
        S.faultAt(2, "lab @lab aspect 1 hold 1;");
        S.says("2 it can't stand there");
        S.faultAt(2, HEAD + "@;");
        S.faultAt(2, HEAD + LANE + "@;");
        S.faultAt(2, "lab aspect 1 hold 1 @lane");
        S.faultAt(2, HEAD + "pattern 1 @pattern 1;");
        S.faultAt(2, HEAD + "@time : 1;");
        S.faultAt(2, HEAD + "@if : 1;");
        S.faultAt(2, HEAD + "@: 1;");
        S.faultAt(2, HEAD + "drifts @;");
        S.faultAt(2, HEAD + "drifts : @;");
        S.faultAt(2, HEAD + "drifts : @: 1;");
        S.faultAt(2, HEAD + "drifts : @+ 1;");
        S.faultAt(2, HEAD + "drifts : 1 - @- 1;");
        S.faultAt(2, HEAD + "drifts : 1 * @;");
        S.faultAt(2, HEAD + "drifts : (@);");
        S.faultAt(2, HEAD + "drifts : (1@;");
        S.faultAt(2, HEAD + "drifts : 1@);");
        S.faultAt(2, HEAD + "drifts : (1@];");
        S.faultAt(2, HEAD + "drifts : @[1];");
        S.faultAt(2, HEAD + "drifts : @not 1;");
        S.faultAt(2, HEAD + "drifts : if @then 1 else 1 end;");
        S.faultAt(2, HEAD + "drifts : if 1 = 1 then @else 1 end;");
        S.faultAt(2, HEAD + "drifts : if 1 = 1 then 1 else @end;");
        S.faultAt(2, HEAD + "drifts : if 1 = 1 then 1 @= 1 else 1 end;");
        S.faultAt(2, HEAD + "edge : [1 = 1@;");
        S.faultAt(2, HEAD + "edge : 1 = 1@];");
        S.faultAt(2, HEAD + "edge : [@];");
        S.faultAt(2, HEAD + "edge : 1 = 1 or @;");
        S.faultAt(2, HEAD + "edge : 1 = 1 and @and 1 = 1;");
        S.faultAt(2, HEAD + "edge : @or 1 = 1;");
        S.faultAt(2, HEAD + "edge : not @and 1 = 1;");
        S.faultAt(2, HEAD + "edge : [1 @] = 1;");
        S.faultAt(2, HEAD + "edge : [1 = 1] @= 1;");
        S.faultAt(2, HEAD + "edge : 1 < 1 @< 1;");
    }

    /** Each text that is cut off ahead of its last ; ends too early: there the end can't stand. */
    private static void theEnd() {
        S.says("the end: the text's length");
        S.fault(2, 0, "");
        S.fault(2, 5, "     ");
        S.fault(2, 900, " ".repeat(900));
        String whole = "lab aspect 1 hold 1 ; pattern 1 ; drifts : 1 + ( 2 ) * if [ not 1 = 1 ] or 1 < 2 and 2 > 1 then 1 else time end ; ";
        int[] lineEnds = {whole.indexOf(';'), whole.indexOf(';', 21), whole.lastIndexOf(';')};
        for (int length = 0; length <= whole.length(); length++) {
            // inside a word its rest is missing: that is another word, which can't stand
            boolean cutWord = length > 0 && length < whole.length() && Character.isLetter(whole.charAt(length - 1))
                && Character.isLetter(whole.charAt(length));
            String text = whole.substring(0, length);
            int lines = 0;
            for (int end : lineEnds) {
                if (length > end && text.substring(end + 1).isBlank()) {
                    lines = end == lineEnds[0] ? 1 : end == lineEnds[1] ? 2 : 3;
                }
            }
            if (cutWord) {
                S.fault(2, text.lastIndexOf(' ') + 1, text);
            } else if (lines > 0) {
                S.readable(text, lines);
            } else {
                S.fault(2, length, text);
                S.fault(2, length + 3, text + " \n ");
            }
        }
    }

    // ---- laws

    private static void wordsOfLaws() {
        S.says("in passes delay, level, lane, stress, drift, in edge delay, lane, drift, in drifts time; a word of another law");
        String[] words = {"delay", "level", "lane", "stress", "drift", "time"};
        String[] laws = {"passes", "edge", "drifts"};
        String[] known = {"delay level lane stress drift", "delay lane drift", "time"};
        String others = " at wide high lab aspect hold pattern passes edge drifts then else end or and mid point x ";
        for (int law = 0; law < 3; law++) {
            String ahead = HEAD + laws[law] + " : 1 + ";
            String behind = law < 2 ? " = 1;" : ";";
            for (String word : words) {
                if ((" " + known[law] + " ").contains(" " + word + " ")) {
                    S.readable(ahead + word + behind, 2);
                } else {
                    S.fault(2, ahead.length(), ahead + word + behind);
                }
            }
            for (String word : others.trim().split(" ")) {
                S.fault(2, ahead.length(), ahead + word + behind);
            }
        }
        S.says("the words of a law, each told as it is");
        S.fresh("lab aspect 1 hold 1;" + LANE.repeat(6) + "pattern 9;drifts:15;"
            + "passes:delay=23 and level=15 and lane=5 and stress=9 and drift=15;edge:delay=23 and lane=5 and drift=15;");
        S.run("pattern 0 => -1\npasses 5 383 => 1\narea 5 => 1\narea 4 => 0\nrisen 5 => 8388608\nrisen 4 => 0\n"
            + "pattern -1 => 0\narea 5 => 0\n");
        S.fresh("lab aspect 1 hold 1;" + LANE + "drifts:0-15;"
            + "passes:delay=0 and level=0 and lane=0 and stress=0 and drift=0-15;edge:delay=0 and lane=0 and drift+15=0;");
        S.run("passes 0 0 => 1\narea 0 => 1\nrisen 0 => 1\n");
    }

    private static void sumsAndTruths() {
        S.says("UNIT: not UNIT, [ TRUTH ], or SUM, one of = < >, SUM");
        truth("1 = 1", true);
        truth("0 = 1", false);
        truth("0 < 1", true);
        truth("1 < 1", false);
        truth("1 > 1", false);
        truth("1 > 0", true);
        truth("0 - 1 < 0", true);
        truth("not 1 < 1 and not 1 > 1", true);
        S.says("TRUTH: BOTH { or BOTH }; BOTH: UNIT { and UNIT }");
        for (int bits = 0; bits < 16; bits++) {
            boolean[] v = {(bits & 1) != 0, (bits & 2) != 0, (bits & 4) != 0, (bits & 8) != 0};
            String[] t = new String[4];
            for (int i = 0; i < 4; i++) {
                t[i] = v[i] ? "1=1" : "1=2";
            }
            truth(t[0] + " and " + t[1] + " or " + t[2] + " and " + t[3], v[0] && v[1] || v[2] && v[3]);
            truth(t[0] + " or " + t[1] + " and " + t[2] + " or " + t[3], v[0] || v[1] && v[2] || v[3]);
            truth("[" + t[0] + " or " + t[1] + "] and [" + t[2] + " or " + t[3] + "]", (v[0] || v[1]) && (v[2] || v[3]));
            truth("not " + t[0] + " and " + t[1] + " or not [" + t[2] + " or " + t[3] + "]", !v[0] && v[1] || !(v[2] || v[3]));
        }
        S.says("SUM: TERM { + TERM | - TERM }; TERM: ATOM { * ATOM }");
        sum("9 - 3 - 2", 4);
        sum("9 - 3 + 2", 8);
        sum("9 - (3 + 2)", 4);
        sum("1 + 2 * 3", 7);
        sum("2 * 3 + 1", 7);
        sum("(1 + 2) * 3", 9);
        sum("2 * 3 - 2 * 2 * 2 + 1", -1);
        sum("if 1 = 1 then 2 else 3 end * 4", 8);
        sum("9 - if 1 = 2 then 2 else 3 end - 1", 5);
        S.says("if tells the one SUM, if the TRUTH holds, else the other one");
        sum("if 1 = 1 then 5 else 6 end", 5);
        sum("if 1 = 2 then 5 else 6 end", 6);
        sum("if if 1 = 2 then 1 else 2 end = 2 then if 1 = 1 then 3 else 4 end else 5 end", 3);
    }

    private static void truth(String truth, boolean want) {
        S.fresh(HEAD + LANE + "passes : " + truth + ";edge : " + truth + ";");
        S.due(truth, S.x.area(0), want ? 384 : 0);
        S.due(truth, S.x.risen(0), want ? (1 << 24) - 1 : 0);
        sum("if " + truth + " then 1 else 0 end", want ? 1 : 0);
    }

    private static void sum(String sum, int want) {
        String holds = sum + " = delay " + (want < 0 ? "- " : "+ ") + Math.abs(want) + ";";
        S.fresh(HEAD + LANE + "drifts : " + sum + ";passes : " + holds + "edge : " + holds);
        S.due("DRIFT by " + sum, S.x.drift(0), want);
        S.due(sum + " in passes", S.x.row(0, 0), 1);
        S.due(sum + " in edge", S.x.risen(0), 1);
    }

    /** All ways to put not [ ( if within one another: six can be read, at a seventh is the FAULT. */
    private static void sixWithinOneAnother() {
        S.says("At most six of not [ ( if within one another");
        nest(HEAD + "passes:", ";", 0, true);
        S.readable(HEAD + "edge:not[not[not[1=1]]]and[[[[[[1=1]]]]]]or((((((1))))))=((((((1))))))and not not not not not not 1=1;", 2);
        S.readable(HEAD + "drifts:((((((1))))))+((((((1))))))*((((((1))))));drifts:((((((1))))));", 3);
        S.readable(HEAD + "drifts:if(((((1)))))=1 then(((((1)))))else(((((1)))))end;", 2);
        S.says("six within one another: what they tell");
        S.fresh(HEAD + "drifts:" + "1+1*(".repeat(6) + "1" + ")".repeat(6) + ";");
        S.due("drift 0", 7);
        S.fresh(HEAD + "drifts:" + "9-2*if 8<1+1*".repeat(6) + "7" + " then 3 else 1 end".repeat(6) + ";");
        // from within: 8 isn't less than 1 + 7, so 1; 8 isn't less than 1 + 9 - 2, so 1; and so on
        S.due("drift 0", 7);
        S.fresh(HEAD + LANE + "passes:" + "not[".repeat(3) + "delay<5" + "]".repeat(3) + ";edge:" + "not ".repeat(6) + "delay<5;");
        S.run("row 0 0 => 16777184\nrisen 0 => 31\n");
        S.says("At most six of not [ ( if within one another");
        S.faultAt(4, HEAD + "drifts:if(((((@(1)))))=1 then 1 else 1 end;");
        S.faultAt(4, HEAD + "drifts:if 1=1 then(((((@(1)))))else 1 end;");
        S.faultAt(4, HEAD + "drifts:if 1=1 then 1 else(((((@(1)))))end;");
        S.faultAt(4, HEAD + "drifts:1+((((((@(1;");
        S.faultAt(4, HEAD + "drifts:((((((1))))))*((((((@(1;");
    }

    private static void nest(String ahead, String behind, int depth, boolean truth) {
        String middle = truth ? "1=1" : "1";
        if (depth == 6) {
            S.readable(ahead + middle + behind, 2);
            String[] sevenths = {"not 1=1", "[1=1]", truth ? "(1)=1" : "(1)", "if 1=1 then 1 else 1 end" + (truth ? "=1" : "")};
            for (int i = 0; i < 4; i++) {
                S.fault(truth || i > 1 ? 4 : 2, ahead.length(), ahead + sevenths[i] + behind);
            }
            return;
        }
        String is = truth ? "=1" : "";
        if (truth) {
            nest(ahead + "not ", behind, depth + 1, true);
            nest(ahead + "[", "]" + behind, depth + 1, true);
        }
        nest(ahead + "(", ")" + is + behind, depth + 1, false);
        // what stands in an if: its TRUTH, or one of its SUMS by turns
        nest(ahead + "if ", " then 1 else 1 end" + is + behind, depth + 1, true);
        if (depth % 2 == 0) {
            nest(ahead + "if 1=1 then ", " else 1 end" + is + behind, depth + 1, false);
        } else {
            nest(ahead + "if 1=1 then 1 else ", " end" + is + behind, depth + 1, false);
        }
    }

    private static void keptWithinAMillion() {
        S.says("Each + - * is kept from -1,000,000 to 1,000,000");
        String million = "100*100*100";
        sum(million + "-" + million, 0);
        sum(million + "-1-" + million, -1);
        sum(million + "-1+1-" + million, 0);
        sum(million + "+1-" + million, 0);
        sum(million + "+999-" + million + "+3", 3);
        sum("0-" + million + "+" + million, 0);
        sum("0-" + million + "+1+" + million, 1);
        sum("0-" + million + "-1+" + million, 0);
        sum("0-" + million + "-" + million + "+" + million, 0);
        sum(million + "+" + million + "-" + million + "-" + million + "+" + million + "-7", -7);
        sum(million + "-(" + million + "-7)", 7);
        S.says("kept from -1,000,000 to 1,000,000: by *");
        sum("(999+1)*(999+1)-" + million, 0);
        sum("(999+2)*999-" + million, -1);
        sum("(999+2)*(999+1)-" + million, 0);
        sum("(0-999-1)*(999+1)+" + million, 0);
        sum("(0-999-2)*999+" + million, 1);
        sum("(0-999-2)*(999+1)+" + million, 0);
        sum("999*999*2-" + million, 0);
        S.says("kept from -1,000,000 to 1,000,000: where an int would wrap around");
        sum(million + "*(" + million + ")-" + million, 0);
        sum("(0-" + million + ")*(" + million + ")+" + million, 0);
        sum("(0-" + million + ")*(0-" + million + ")-" + million, 0);
        sum("(256*256)*(256*256)-" + million, 0);
        sum("(256*256)*(256*128)-" + million, 0);
        sum("(0-256*256)*(256*128)+" + million, 0);
        sum("(0-256*256)*(256*256)+" + million, 0);
        S.says("kept from -1,000,000 to 1,000,000: each, not only the last");
        sum("999*999*999*0+1", 1);
        sum(million + "*2-" + million + "+2", 2);
        truth(million + "+1=" + million, true);
        truth(million + "*100=" + million, true);
        truth("0-" + million + "-1=0-" + million, true);
        truth(million + "-1<" + million, true);
        truth(million + "+1>" + million, false);
    }

    private static void timeByItsRest() {
        S.says("time: the rest of the TIME by 100");
        String law = "drifts : if time = 99 then 9 else if time = 0 then 5 else if time < 0 or time > 99 then 15 else 1 end end end;";
        for (int t = 0; t <= 9999; t++) {
            if (t % 400 == 0) {
                S.fresh(HEAD + law);
            }
            S.due("drift " + t, S.x.drift(t), t % 100 == 99 ? 9 : t % 100 == 0 ? 5 : 1);
        }
        S.fresh(HEAD + "drifts : time - 50;");
        for (int t = 9800; t <= 9999; t++) {
            S.due("drift " + t, S.x.drift(t), Math.max(-15, Math.min(15, t % 100 - 50)));
        }
    }
}
