/** Each promise of the document by hand; its answers stand in scripts, see Script. */
public final class PromisesTest {
    /** Lane 0: rows of 3, 5, 7, 5, 3 round delay 10, level 7; lane 1: a cross of 5 round delay 5, level 4. */
    private static final String PLAIN = "lab aspect 2 hold 3;lane at 10 level 7 wide 4 high 3;"
            + "lane at 5 level 4 wide 2 high 2;pattern 3;pattern 0;pattern 9;pattern 2;";
    private static final String HEAD = "lab aspect 1 hold 1;";
    private static final String LANE = "lane at 0 level 0 wide 1 high 1;";

    private static final Script S = new Script();

    public static void main(String[] args) {
        newObject();
        theTape();
        reading();
        laws();
        faults();
        lanes();
        places();
        deeds();
        undoing();
        trays();
        days();
        shapes();
        edges();
        patterns();
        going();
        steps();
        seen();
        chances();
        images();
        counts();
        S.end("the promises");
    }

    private static void run(int promise, String script) {
        S.says("promise " + promise);
        S.run(script);
    }

    private static void due(String call, long got, long want) {
        S.due(call, got, want);
    }

    private static void faultAt(int kind, String marked) {
        S.faultAt(kind, marked);
    }

    private static void readable(String text, int lines) {
        S.readable(text, lines);
    }

    private static String times(int n, String text) {
        return text.repeat(n);
    }

    private static void newObject() {
        run(1, """
            new
            count 0 => 0
            count 1 => 0
            count 2 => 1
            count 3 => 1
            count 4 => 0
            count 5 => -1
            count 6 => 0
            count 7 => 0
            count 8 => 0
            count 9 => 0
            fault 0 => 0
            fault 1 => -1
            lane 0 0 => -2
            area 0 => -2
            stress 0 => -2
            drift 0 => 0
            undo 1 => -3
            judge 3 3 => -6
            perform 0 => -6
            restore 0 => -5
            restore 1 => -5
            """);
        due("NONE", EyeTrainer.NONE, -1);
    }

    private static void theTape() {
        S.says("promise 2");
        S.x = new EyeTrainer();
        for (int i = 1; i <= 44; i++) {
            due("feed " + i, S.x.feed(0x20202020, 0x20202020, 0x20202020, 0x20202020, 0x20202020), 20 * i);
        }
        // "lab aspect 3 hold 4;" fills it to the last byte.
        due("feed 45", S.x.feed(0x6c616220, 0x61737065, 0x63742033, 0x20686f6c, 0x6420343b), 900);
        due("feed 46", S.x.feed(0, 0, 0, 0, 0), -5);
        run(2, """
            count 8 => 900
            lab 901 => -3
            count 8 => 900
            lab 900 => 1
            count 8 => 0
            count 2 => 3
            count 3 => 4
            """);
        due("feed of high bytes", S.x.feed(-1, -2, 255, 1 << 31, 128), 20);
        due("lab", S.x.lab(1), -31);
        S.says("promise 3");
        due("text of 900 bytes", Calls.tell(S.x, HEAD + times(88, "pattern 1;").substring(0, 30) + times(850, " ")), 4);
    }

    private static void reading() {
        S.x = new EyeTrainer();
        run(3, "lab 0 => -32\nlab 1 => -3\nlab -1 => -3\ntell " + PLAIN + " => 7\n" + """
            count 0 => 2
            count 1 => 4
            count 2 => 2
            count 3 => 3
            count 8 => 0
            place 1 101 => 1
            pattern 1 => -1
            ticks 3 => 1
            count 7 => 3
            feed 1818321440 1634955365 1668554801 543715180 1679831355 => 20
            lab 21 => -3        # THE TAPE and all else stay
            count 8 => 20
            count 0 => 2
            lab 19 => -32       # the ; is cut off
            fault 1 => 19
            count 8 => 0
            count 0 => 2        # all stays with a FAULT
            count 4 => 3
            count 5 => 1
            count 7 => 3
            count 9 => 7
            lane 1 4 => 101
            """ + "tell " + PLAIN + "drifts : 1; => 8\n" + """
            lane 1 4 => 0
            count 4 => 0
            count 5 => -1
            count 7 => 0
            undo 1 => -3
            count 9 => 8
            feed 1818321440 1634955365 1668554801 543715180 1679831355 => 20
            lab 20 => 1         # later labs have none of the former's LANES, PATTERNS, laws
            count 0 => 0
            count 1 => 0
            drift 0 => 0
            """);
    }

    private static void sumIs(String sum, int want) {
        S.says("promise 3");
        EyeTrainer y = new EyeTrainer();
        due(sum, Calls.tell(y, HEAD + "drifts : " + sum + ";"), 2);
        due(sum, y.drift(207), want);
    }

    private static void truthIs(String truth, boolean want) {
        S.says("promise 3");
        EyeTrainer y = new EyeTrainer();
        due(truth, Calls.tell(y, HEAD + LANE + LANE + "pattern 4;drifts:0-2;passes : " + truth + ";"), 6);
        y.pattern(0);
        // lane 1 at delay 5, level 3, stress 4, drift -2
        due(truth, y.passes(1, 77), want ? 1 : 0);
    }

    private static void laws() {
        sumIs("2 + 3 * 4 - 1", 13);
        sumIs("(2 + 3) * 2", 10);
        sumIs("20 - 5 - 4", 11);
        sumIs("20 - (5 - 4) - 7", 12);
        sumIs("time", 7);
        sumIs("time * time - 40", 9);
        sumIs("15", 15);
        sumIs("16", 15);
        sumIs("0 - 15", -15);
        sumIs("0 - 16", -15);
        sumIs("007", 7);
        sumIs("if time = 7 then 3 else 4 end", 3);
        sumIs("if time < 7 then 3 else 4 end", 4);
        sumIs("1 + if time > 6 then 2 * 3 else 9 end * 2", 13);
        sumIs("if 1 = 1 then if 1 = 2 then 1 else 2 end else 3 end", 2);
        sumIs("if not 1 = 1 or 2 = 2 and not 2 = 3 then 8 else 9 end", 8);
        // each + - * is kept within a million
        sumIs("999 * 999 * 999 - 999 * 999 - 999 - 990", 10);
        sumIs("999 * 999 + 999 * 999 - 999 * 999 - 999 - 990", 10);
        sumIs("0 - 999 * 999 - 999 * 999 + 999 * 999 + 999 + 990", -10);
        sumIs("(0 - 999) * 999 * 999 + 999 * 999 + 999 + 990", -10);
        sumIs("(999 * 999 * 2 - 999 * 999 - 999) * 0 + 1", 1);
        truthIs("delay = 5", true);
        truthIs("level = 3", true);
        truthIs("lane = 1", true);
        truthIs("stress = 4", true);
        truthIs("drift = 0 - 2", true);
        truthIs("delay + level * 10 = 35", true);
        truthIs("1 = 1 or 1 = 1 and 1 = 2", true);
        truthIs("[1 = 1 or 1 = 1] and 1 = 2", false);
        truthIs("1 = 2 and 1 = 2 or 1 = 1", true);
        truthIs("1 = 2 and [1 = 2 or 1 = 1]", false);
        truthIs("not 1 = 2 and 1 = 2", false);
        truthIs("not [1 = 2 and 1 = 2]", true);
        truthIs("not not 1 = 1", true);
        truthIs("1 < 2", true);
        truthIs("2 < 2", false);
        truthIs("2 > 2", false);
        truthIs("3 > 2", true);
        truthIs("(delay + level) * 2 > 15 and delay*level<16", true);
        truthIs("delay < if lane = 1 then 6 else 0 end", true);
        truthIs("1 = 2 or 1 = 2 or 1 = 1", true);
        truthIs("1 = 1 and 1 = 1 and 1 = 2", false);
        // later laws strike
        run(3, "new\ntell " + HEAD + LANE + "drifts : 3;passes : 1 = 1;edge : 1 = 1;drifts : 5;passes : 1 = 2;edge : 1 = 2;"
            + " => 8\n" + """
            drift 0 => 5
            area 0 => 0
            risen 0 => 0
            """);
    }

    private static void faults() {
        S.says("promise 4");
        faultAt(2, "@");
        faultAt(2, "  \n@");
        faultAt(2, "@" + times(900, ";"));
        faultAt(2, HEAD + "drifts:" + times(436, "1+") + "1@");
        readable(HEAD + "drifts:" + times(435, "1+") + "1;", 2);
        readable(HEAD + "drifts:" + times(290, "1+") + times(144, "1*") + "1;", 2);
        readable(HEAD + "passes:" + times(96, "1=1 and ") + "1=1;", 2);
        faultAt(2, "@lane at 0;");
        faultAt(2, "@labs aspect 1 hold 1;");
        faultAt(1, "@Lab aspect 1 hold 1;");
        faultAt(2, "lab @hold 1 aspect 1;");
        faultAt(1, "lab aspect @1000 hold 1;");
        faultAt(1, "lab @1000");
        faultAt(3, "lab aspect @0 hold #;");
        faultAt(3, "lab aspect @010 hold 1;");
        faultAt(2, "lab aspect @x;");
        faultAt(3, "lab aspect 9 hold @10;");
        faultAt(2, "lab aspect 1 hold 1@");
        faultAt(2, "lab aspect 1 hold 1 @");
        faultAt(1, "lab aspect 1 hold 1@,");
        faultAt(1, HEAD + "@\tlane");
        faultAt(1, HEAD + "@" + (char) 200);
        faultAt(1, HEAD + "@" + (char) 0);
        faultAt(2, HEAD + "@lab aspect 1 hold 1;");
        faultAt(2, HEAD + "@;");
        faultAt(2, HEAD + "@at 1;");
        faultAt(2, HEAD + "lane @level 1;");
        faultAt(3, HEAD + "lane at @24 level 0 wide 1 high 1;");
        faultAt(3, HEAD + "lane at 23 level @16 wide 1 high 1;");
        faultAt(3, HEAD + "lane at 23 level 15 wide @25 high 1;");
        faultAt(3, HEAD + "lane at 23 level 15 wide @0 high 1;");
        faultAt(3, HEAD + "lane at 23 level 15 wide 24 high @17;");
        faultAt(3, HEAD + "lane at 23 level 15 wide 24 high @0;");
        faultAt(2, HEAD + "lane at 23 level 15 wide 24 high 16 @wide 1;");
        faultAt(4, HEAD + times(6, LANE) + "@lane;");
        faultAt(4, HEAD + times(4, "pattern 9;") + "@pattern 99;");
        faultAt(3, HEAD + "pattern @10;");
        faultAt(2, HEAD + "pattern@;");
        faultAt(2, HEAD + "passes @1 = 1;");
        faultAt(2, HEAD + "passes : @;");
        faultAt(2, HEAD + "passes : 1@;");
        faultAt(2, HEAD + "passes : @time = 1;");
        faultAt(2, HEAD + "passes : 1 = @wide;");
        faultAt(2, HEAD + "passes : 1 = 1 @= 1;");
        faultAt(2, HEAD + "passes : [1 = 1@);");
        faultAt(2, HEAD + "passes : (1 @= 1);");
        faultAt(2, HEAD + "passes : not @;");
        faultAt(2, HEAD + "passes : 1 = 1 and @or 1 = 1;");
        faultAt(2, HEAD + "passes : 1 = 1 @not 1 = 1;");
        faultAt(2, HEAD + "passes : 1 = @not 1 = 1;");
        faultAt(2, HEAD + "passes : 1 = @[1 = 1];");
        faultAt(2, HEAD + "edge : @level = 1;");
        faultAt(2, HEAD + "edge : @stress = 1;");
        faultAt(2, HEAD + "edge : @time = 1;");
        faultAt(2, HEAD + "drifts : @delay;");
        faultAt(2, HEAD + "drifts : @level;");
        faultAt(2, HEAD + "drifts : @lane;");
        faultAt(2, HEAD + "drifts : @stress;");
        faultAt(2, HEAD + "drifts : @drift;");
        faultAt(2, HEAD + "drifts : @drifts;");
        faultAt(2, HEAD + "drifts : 1 @= 1;");
        faultAt(2, HEAD + "drifts : 1 + @;");
        faultAt(2, HEAD + "drifts : @- 1;");
        faultAt(2, HEAD + "drifts : 1 @2;");
        faultAt(2, HEAD + "drifts : if 1 = 1 then 1 @end;");
        faultAt(2, HEAD + "drifts : if 1 = 1 @else 1 end;");
        faultAt(2, HEAD + "drifts : if 1 @then 1 else 1 end;");
        faultAt(2, HEAD + "drifts : if 1 = 1 then 1 else 1@;");
        faultAt(2, HEAD + "drifts : time@");
        faultAt(1, HEAD + "drifts : 1 @! 1;");
        faultAt(1, HEAD + "drifts : @12345;");
        faultAt(1, HEAD + "drifts : 1 @1234;");
        faultAt(4, HEAD + "drifts : ((((((@(1;");
        faultAt(4, HEAD + "drifts : ((((((@if 1;");
        faultAt(2, HEAD + "drifts : ((((((@[1;");
        faultAt(2, HEAD + "drifts : ((((((@not 1;");
        faultAt(4, HEAD + "passes : not [ not [ not [ @not 1 = 1 ] ] ];");
        faultAt(4, HEAD + "passes : not [ not [ not [ @[ 1 = 1 ] ] ] ];");
        faultAt(4, HEAD + "passes : not [ not [ not [ 1 = @( 1 ) ] ] ];");
        faultAt(4, HEAD + "passes : not [ not [ not [ 1 + 1 = @if 1 = 1 then 1 else 1 end ] ] ];");
        faultAt(4, HEAD + "drifts : if if if if if if @if 1 = 1;");
        faultAt(4, HEAD + "drifts : if 1 = 1 then if 1 = 1 then (((( @( 1;");
        faultAt(4, HEAD + "drifts : if 1 = 1 then 1 else if 1 = 1 then 1 else (((( @( 1;");
        readable(HEAD + "drifts : ((((((1))))));", 2);
        readable(HEAD + "drifts : (1)+(1)+(1)+(1)+(1)+(1)+(1)+((1));", 2);
        readable(HEAD + "passes : not not not not not not 1 = 1 and not 1 = 1;", 2);
        readable(HEAD + "passes : not [ not [ not [ 1 = 1 ] ] ] or ((((((1)))))) = if 1 = 1 then 1 else 1 end;", 2);
        readable("\nlab\naspect 009 hold 1\n;\n" + times(6, LANE) + times(4, "pattern 000;"), 11);
        readable(HEAD + "lane at 23 level 15 wide 24 high 16;edge:delay=lane;", 3);
        readable(HEAD + "drifts:if1=1then2else3end;", 2);
        readable(HEAD + "passes : not1=1;", 2);
        run(4, "new\n" + """
            fault 0 => 0
            fault 1 => -1
            fault 2 => -1
            fault -1 => -1
            tell lab; => -32
            fault 0 => 2
            fault 1 => 3
            fault 2 => -1
            lab 1 => -3         # it wasn't read
            fault 0 => 2
            fault 1 => 3
            """ + "tell " + HEAD + " => 1\n" + """
            fault 0 => 0
            fault 1 => -1
            """);
    }

    private static void lanes() {
        run(5, "new\ntell " + PLAIN + " => 7\n" + """
            lane 0 0 => 10
            lane 0 1 => 7
            lane 0 2 => 4
            lane 0 3 => 3
            lane 0 4 => 0
            lane 0 5 => 0
            lane 1 0 => 5
            lane 1 1 => 4
            lane 1 2 => 2
            lane 1 3 => 2
            place 1 101 => 1
            lane 1 4 => 101
            lane 1 5 => 1
            lane 0 6 => -2
            lane 0 -1 => -2
            lane 2 0 => -2
            lane -1 0 => -2
            """);
        run(6, """
            stress 0 => 3
            stress 1 => 0
            stress 2 => 9
            stress 3 => 2
            stress 4 => -2
            stress -1 => -2
            """);
        run(7, "tell " + HEAD + "drifts : time - 20; => 2\n" + """
            drift 0 => -15
            drift 5 => -15
            drift 6 => -14
            drift 20 => 0
            drift 34 => 14
            drift 36 => 15
            drift 99 => 15
            drift 100 => -15
            drift 9925 => 5
            drift 9999 => 15
            drift 10000 => -99000003
            drift -1 => -99000003
            count 4 => 0
            """);
    }

    private static void places() {
        run(8, "new\ntell " + PLAIN + "drifts : time; => 8\n" + """
            passes 0 178 => 1   # delay 10, level 7
            passes 0 174 => 0
            passes 0 175 => 1   # the left end at delay 7
            passes 0 181 => 1
            passes 0 182 => 0
            passes 0 129 => 1   # level 5: 9 to 11
            passes 0 128 => 0
            passes 0 106 => 0   # level 4
            passes 0 -1 => -2
            passes 0 384 => -2
            passes 2 0 => -2
            passes -1 0 => -2
            pattern 0 => -1     # a STRESS of 3 leaves 1 wide
            passes 0 178 => 1
            passes 0 177 => 0
            passes 0 130 => 1   # level 5: 2 off times 1 is less than 3
            passes 0 129 => 0
            passes 1 101 => 0   # 2 less 3 is below 1
            pattern 2 => 0
            passes 0 178 => 0
            pattern -1 => 2
            ticks 3 => 0        # all is 3 further right
            passes 0 177 => 0
            passes 0 178 => 1
            passes 0 184 => 1
            passes 0 185 => 0
            """);
        run(9, """
            new
            """ + "tell " + PLAIN + "drifts : time; => 8\n" + """
            row 0 7 => 16256    # delays 7 to 13
            row 0 6 => 7936     # 8 to 12
            row 0 9 => 3584     # 9 to 11
            row 0 10 => 0
            row 1 4 => 112
            row 1 3 => 32
            ticks 2 => 0
            row 1 3 => 128
            row 0 16 => -2
            row 0 -1 => -2
            row 2 0 => -2
            row -1 0 => -2
            """ + "tell " + HEAD + LANE + LANE + "passes : delay > 22 and level = 15 or lane = 1 and delay = 0; => 4\n" + """
            row 0 15 => 8388608
            row 0 14 => 0
            row 1 14 => 1
            row 1 0 => 1
            """);
        run(10, "new\ntell " + PLAIN + "drifts : time * 6 - 6; => 8\n" + """
            risen 0 => 16777200 # from delay 4 on
            risen 1 => 16777215 # from -1 on
            ticks 1 => 0
            risen 0 => 16776192 # from delay 10 on
            ticks 2 => 0
            risen 0 => 12582912 # from 22 on
            ticks 1 => 0
            risen 0 => 0        # from 25 on
            risen 2 => -2
            risen -1 => -2
            """ + "tell " + HEAD + LANE + LANE + "drifts : 3;edge : delay = lane or delay = drift + 1; => 5\n" + """
            risen 0 => 17
            risen 1 => 18
            """);
    }

    private static void deeds() {
        run(11, "new\ntell " + PLAIN + " => 7\n" + """
            place 0 178 => 1
            lane 0 4 => 178
            place 0 383 => 0
            lane 0 4 => 383
            place 0 0 => 0
            place 0 384 => -11
            place 0 -1 => -11
            place 2 0 => -11
            place -1 0 => -11
            lane 0 4 => 0
            count 7 => 3        # what is refused can't be UNDONE
            """);
        run(12, "new\ntell " + PLAIN + "drifts : time; => 8\n" + """
            train 0 0 => 178
            lane 0 4 => 178
            train 1 0 => 101
            train 0 1 => 178
            place 0 360 => 0
            train 0 2 => 370    # the EDGE at delay 10, LEVEL 15 stays
            train 0 3 => -11
            train 0 -1 => -11
            train 2 0 => -11
            train -1 0 => -11
            lane 0 4 => 370
            pattern 2 => -1
            train 0 0 => -12
            train 0 1 => -12
            train 0 2 => 370
            pattern -1 => 2
            ticks 12 => 0
            train 0 2 => -12    # the CLOCK rises at 22: too late to hold 3
            count 7 => 9
            """ + "tell " + HEAD + LANE + "passes : delay = 0 and level = 0; => 3\n" + """
            place 0 9 => 0
            train 0 0 => 0
            place 0 9 => 0
            train 0 1 => 0
            lane 0 4 => 0
            """ + "tell lab aspect 3 hold 1;" + LANE + "passes : level < 4 or delay < 5; => 3\n" + """
            place 0 383 => 0
            train 0 0 => 35     # 24 by 4: delay 11, level 1
            train 0 1 => 51     # delay 3, level 2: 16 from -1 and from delay 5, level 4
            """);
        run(13, "new\ntell " + PLAIN + "drifts : time; => 8\n" + """
            place 0 178 => 1
            place 1 101 => 1
            ticks 1 => 2
            count 4 => 1
            ticks 2 => 1
            ticks 1 => 0
            ticks 99 => 1       # the TIME is 103
            count 4 => 103
            ticks 0 => -3
            ticks 100 => -3
            ticks -1 => -3
            count 4 => 103
            lane 0 4 => 178
            """);
        run(14, "new\ntell " + PLAIN + "drifts : time; => 8\n" + """
            place 0 175 => 1    # its left end
            place 1 101 => 1
            follow 1 => 1       # lane 0 doesn't pass at 8 to 14 and stays
            lane 0 4 => 175
            lane 1 4 => 102
            follow 5 => 1
            lane 1 4 => 107
            count 4 => 6
            undo 2 => 2
            place 0 178 => 1
            follow 3 => 2
            lane 0 4 => 181
            lane 1 4 => 104
            place 0 178 => 1    # the eye is at 10 to 16 now
            follow 1 => 1       # and at 11 to 17 then
            follow 0 => -3
            follow 100 => -3
            count 4 => 4
            follow 99 => 1      # lane 0 is found again at TIME 100, lane 1 is lost there
            count 4 => 103
            lane 0 4 => 181
            lane 1 4 => 116
            """ + "tell " + HEAD + LANE + "passes : delay < 8; => 3\n" + """
            place 0 7 => 1
            follow 1 => 1
            lane 0 4 => 6
            follow 2 => 1
            lane 0 4 => 4
            follow 9 => 1
            lane 0 4 => 3       # 0 and 7 by 2, rounded down
            place 0 2 => 1
            follow 9 => 1
            lane 0 4 => 3
            """);
        run(15, "new\ntell " + PLAIN + " => 7\n" + """
            count 5 => -1
            pattern 3 => -1
            count 5 => 3
            area 0 => 11
            pattern 3 => 3
            pattern 4 => -11
            pattern -2 => -11
            count 5 => 3
            pattern -1 => 3
            pattern -1 => -1
            count 7 => 4
            area 0 => 23
            """);
    }

    private static void undoing() {
        run(16, "new\ntell " + PLAIN + "drifts : time; => 8\n" + """
            undo 1 => -3
            place 0 5 => 0
            train 1 0 => 101
            pattern 3 => -1
            follow 2 => 0
            ticks 4 => 0
            count 7 => 5
            undo 0 => -3
            undo 6 => -3
            undo -1 => -3
            undo 1 => 4
            count 4 => 2
            undo 1 => 3
            count 4 => 0
            count 5 => 3
            lane 1 4 => 101
            undo 2 => 1
            count 5 => -1
            lane 1 4 => 0
            lane 0 4 => 5
            undo 1 => 0
            lane 0 4 => 0
            undo 1 => -3
            ticks 1 => 0        # 1
            ticks 1 => 0        # 2
            ticks 1 => 0
            ticks 1 => 0
            ticks 1 => 0
            ticks 1 => 0
            ticks 1 => 0
            ticks 1 => 0
            ticks 1 => 0
            ticks 1 => 0        # 10
            ticks 1 => 0
            ticks 1 => 0        # 12
            count 7 => 10
            undo 11 => -3
            undo 10 => 0        # the eldest two are forgotten
            count 4 => 2
            ticks 1 => 0
            undo 1 => 0
            count 4 => 2
            ticks 100 => -3
            place 0 384 => -11
            train 0 3 => -11
            pattern 9 => -11
            count 7 => 0
            """);
    }

    private static void trays() {
        run(17, "new\ntell " + PLAIN + "drifts : time; => 8\n" + """
            judge 0 0 => -6
            judge 4 0 => -2
            judge -1 0 => -2
            judge 0 4 => -2     # ahead of the TRAY that is MISSING
            judge 0 -1 => -2
            numbers 0 2 0 => 0
            judge 0 0 => -1
            judge 0 1 => 0
            judge 0 2 => 0
            judge 0 3 => 0
            numbers 0 2 6 => 0
            write 0 0 100 => 100        # lane 0 to 178
            write 0 1 11101 => 11101    # lane 1 to 101
            write 0 2 1 => 1            # followed: 179 and 102
            write 0 3 12 => 12          # the PATTERN 1, STRESS 0
            write 0 4 0 => 0
            write 0 5 10 => 10
            judge 0 0 => -1
            judge 0 1 => 0
            judge 0 2 => 281
            judge 0 3 => 3
            write 0 3 13 => 13          # the PATTERN 2, STRESS 9: no MAP has a CELL
            write 0 4 111 => 111
            judge 0 0 => 4
            judge 0 1 => 2
            judge 0 2 => 281
            judge 0 3 => 0
            write 0 3 15 => 15
            judge 0 0 => 3
            judge 0 1 => 1
            judge 0 3 => 3
            lane 0 4 => 0               # nothing was done
            count 4 => 0
            count 5 => -1
            count 7 => 0
            """);
        for (long bad : new long[] {-1, 2, 9, 15, 99, 103, 109, 120, 199, 200, 9383, 9999, 10384, 10999, 12000, 16000, 1L << 32,
            (1L << 32) + 1, (1L << 32) + 100, Long.MIN_VALUE}) {
            run(17, "new\ntell " + PLAIN + " => 7\nnumbers 3 3 2 => 0\nwrite 3 1 " + bad + " => " + bad + "\n"
                + "judge 3 0 => 1\njudge 3 1 => 1\njudge 3 2 => 0\n");
        }
        for (long good : new long[] {0, 1, 10, 11, 14, 100, 101, 102, 110, 10000, 10383, 11000, 11383}) {
            run(17, "new\ntell " + PLAIN + " => 7\nnumbers 3 3 1 => 0\nwrite 3 0 " + good + " => " + good + "\n"
                + "judge 3 0 => -1\njudge 3 1 => 0\n");
        }
        run(18, "new\ntell " + PLAIN + "drifts : time; => 8\n" + """
            perform 0 => -6
            perform 4 => -2
            perform -1 => -2
            numbers 0 2 0 => 0
            perform 0 => 0
            count 7 => 0        # it did none
            numbers 0 2 5 => 0
            write 0 0 100 => 100
            write 0 1 11101 => 11101
            write 0 2 1 => 1
            write 0 3 14 => 14
            place 1 44 => 0
            pattern 1 => -1
            perform 0 => 5
            lane 0 4 => 179
            lane 1 4 => 102
            count 4 => 2
            count 5 => 3
            count 7 => 3
            undo 1 => 2         # as a whole
            lane 0 4 => 0
            lane 1 4 => 44
            count 4 => 0
            count 5 => 1
            undo 2 => 0
            write 0 2 2 => 2
            perform 0 => 2      # what stood ahead of it is done
            lane 0 4 => 178
            lane 1 4 => 101
            count 4 => 0
            count 7 => 1
            write 0 0 7 => 7
            perform 0 => 0
            count 7 => 1
            """);
        run(42, """
            new
            numbers 0 0 40 => 0
            numbers 0 0 41 => -3
            write 0 39 5 => 5   # the TRAY stays
            numbers 0 0 -1 => -3
            write 0 39 6 => 6
            numbers 0 4 41 => -2
            numbers 0 -1 1 => -2
            numbers 4 0 1 => -2
            numbers -1 0 1 => -2
            numbers 3 3 0 => 0
            write 3 0 1 => -7
            numbers 0 2 2 => 0
            write 0 2 1 => -7
            judge 0 0 => -1     # all are 0 again: two TICKS
            write 0 1 7 => 7
            judge 0 0 => 1
            numbers 0 2 2 => 0
            judge 0 0 => -1
            numbers 1 1 41 => -3
            write 1 0 0 => -6
            """);
        run(43, """
            new
            write 0 0 1 => -6
            write 4 0 1 => -2
            write -1 0 1 => -2
            numbers 0 0 2 => 0
            numbers 1 1 2 => 0
            numbers 2 2 2 => 0
            numbers 3 3 2 => 0
            write 0 0 127 => 127
            write 0 0 128 => -128
            write 0 1 256 => 0
            write 0 1 -1 => -1
            write 1 0 32767 => 32767
            write 1 0 32768 => -32768
            write 1 1 65537 => 1
            write 2 0 2147483647 => 2147483647
            write 2 0 2147483648 => -2147483648
            write 2 1 4294967297 => 1
            write 3 0 9223372036854775807 => 9223372036854775807
            write 3 1 -9223372036854775808 => -9223372036854775808
            write 3 2 0 => -7
            write 3 -1 0 => -7
            """);
        run(44, "new\nlists 0 0 => -2\ntell " + PLAIN + " => 7\n" + """
            lists 0 0 => -6
            lists 4 0 => -2
            lists -1 0 => -2
            lists 0 2 => -2
            lists 0 -1 => -2
            numbers 0 1 5 => 0
            write 0 0 178 => 178
            write 0 1 383 => 383
            write 0 2 384 => 384
            write 0 3 -1 => -1
            lists 0 0 => 3      # 178, 383 and the 0
            drifts 0 0 => -3    # the -1 stays
            write 0 3 2 => 2
            drifts 0 0 => 520192        # 384 stays: it didn't pass in CELL 192, it did in 178
            numbers 0 1 1 => 0
            write 0 0 178 => 178
            lists 0 0 => 1
            drifts 0 0 => 520192        # 357: it passes there by DRIFTS -3 to 3
            numbers 0 0 2 => 0
            write 0 0 101 => 101
            write 0 1 127 => 127
            lists 0 1 => 2      # 203 and 254, cut to 8 bits: -53 and -2
            lists 0 1 => 0
            drifts 0 1 => -3
            """);
    }

    private static void days() {
        String six = "tell " + HEAD + times(5, "lane at 9 level 4 wide 2 high 2;") + "lane at 6 level 8 wide 3 high 1;"
            + times(3, "pattern 1;") + "pattern 2;drifts : time; => 12\n";
        run(19, "new\n" + six + """
            day 0 1 => 1        # 0: a TICK
            count 4 => 1
            count 7 => 1
            undo 1 => 0
            count 4 => 0
            day 4 1 => 1        # 1817: 5, 56934: LANE 0, 43259: CELL 251
            lane 0 4 => 251
            day 6 1 => 1        # 35494: 4, 25515: LANE 3, 43510: by its ELLIPSE
            lane 3 4 => 105
            day 2 1 => 1        # 33676: 4, 22817: LANE 5, 43007: by its EDGE
            lane 5 4 => 6
            day 10 1 => 1       # 37311: 3, 28214: the DEED 14
            count 5 => 3
            pattern -1 => 3
            day 3 1 => 1        # 50515: 1: LANE 3 is FOLLOWED
            lane 3 4 => 106
            count 4 => 1
            day 1 0 => -3
            day 1 41 => -3
            day 1 -1 => -3
            day 1 40 => 38      # two can't be
            count 7 => 7
            count 4 => 18
            place 0 77 => 0
            pattern 2 => 2
            lane 3 4 => 287     # 271 levelled: the EDGE at delay 23
            day 1 9 => 9
            undo 1 => 9
            count 4 => 18
            count 5 => 2
            lane 0 4 => 77
            lane 3 4 => 287     # 271 levelled: the EDGE at delay 23
            """);
        run(19, "new\ntell " + HEAD + "pattern 1;" + " => 2\n" + """
            day 4 1 => 0        # there is no LANE
            day 10 1 => 0       # nor PATTERN 3
            count 7 => 0
            day 4 2 => 0        # 36479: 5 again
            day 10 2 => 1       # 44013: 3, 8870: the DEED 10: it goes on behind what can't be
            count 7 => 1
            """);
    }

    private static void shapes() {
        String two = "tell " + HEAD + LANE + "passes : level < 2 and delay < 3 or level = 2 and delay = 3"
            + " or delay > 20 and level > 12; => 3\n";
        run(20, "new\ntell " + PLAIN + " => 7\n" + """
            area 0 => 23
            area 1 => 5
            pattern 2 => -1
            area 0 => 0
            area 2 => -2
            area -1 => -2
            """ + two + """
            area 0 => 16
            """);
        run(21, """
            eyes 0 => 3         # corners don't hang together
            eyes 1 => -2
            eyes -1 => -2
            """ + "tell " + HEAD + LANE + "passes : delay = 0 or delay = 23; => 3\n" + """
            eyes 0 => 2         # the end of a LEVEL isn't next to the following one's begin
            """ + "tell " + HEAD + LANE + "passes : delay * level = 0 and not delay + level = 1; => 3\n" + """
            eyes 0 => 3         # CELL 0 by itself
            greatest 0 => 22
            """ + "tell " + HEAD + LANE + "passes : 1 = 2; => 3\n" + """
            eyes 0 => 0
            """);
        run(22, """
            greatest 0 => 0
            greatest 1 => -2
            greatest -1 => -2
            """ + two + """
            greatest 0 => 9
            """ + "tell " + HEAD + LANE + "passes : 1 = 1; => 3\n" + """
            greatest 0 => 384
            """);
        run(23, "new\ntell " + PLAIN + " => 7\n" + """
            rectangle 0 0 => 15 # not 8 to 12 by levels 6 to 8: that has the greater low
            rectangle 0 1 => 9
            rectangle 0 2 => 11
            rectangle 0 3 => 5
            rectangle 0 4 => 9
            rectangle 0 5 => 178
            rectangle 0 6 => -2
            rectangle 0 -1 => -2
            rectangle 2 0 => -2
            rectangle -1 0 => -2
            rectangle 1 0 => 3  # the upright one has the lesser low
            rectangle 1 1 => 5
            rectangle 1 3 => 3
            pattern 2 => -1
            rectangle 0 0 => -1
            rectangle 0 5 => -1
            rectangle 0 6 => -2
            """ + "tell " + HEAD + LANE + "passes : level = 3 and delay > 9 and delay < 14 or level = 3 and delay < 4"
            + " or delay > 19 and delay < 22 and level > 2 and level < 5; => 3\n" + """
            rectangle 0 0 => 4  # the least high, then the least left
            rectangle 0 1 => 0
            rectangle 0 2 => 3
            rectangle 0 3 => 3
            rectangle 0 4 => 3
            rectangle 0 5 => 73
            """);
        run(24, "new\ntell " + PLAIN + " => 7\n" + """
            ellipse 0 0 => 10   # at delay 10, level 7: 3 right, 1 up: 9 and 2 times 1
            ellipse 0 1 => 178
            ellipse 1 0 => 2    # 1 right, 1 up: 3
            ellipse 1 1 => 101
            ellipse 0 2 => -2
            ellipse 0 -1 => -2
            ellipse 2 0 => -2
            ellipse -1 0 => -2
            pattern 2 => -1
            ellipse 0 0 => -1
            ellipse 0 1 => -1
            ellipse 0 2 => -2
            """ + "tell lab aspect 1 hold 1;" + LANE + "passes : 1 = 1; => 3\n" + """
            ellipse 0 0 => 63   # level 7 is 8 from -1 and 9 from 16
            ellipse 0 1 => 175  # delay 7, 8 from -1
            """ + "tell lab aspect 9 hold 1;" + LANE + "passes : delay < 5 and level < 1; => 3\n" + """
            ellipse 0 0 => 8
            ellipse 0 1 => 2
            """ + "tell lab aspect 8 hold 1;" + LANE + "passes : delay < 5 and level = 5; => 3\n" + """
            ellipse 0 0 => 7
            ellipse 0 1 => 122
            """ + "tell lab aspect 1 hold 1;" + LANE + "passes : delay = 0 and level = 0 or delay = 23 and level = 15; => 3\n" + """
            ellipse 0 0 => 0
            ellipse 0 1 => 0
            """);
        run(25, "new\ntell " + PLAIN + " => 7\n" + """
            margin 0 0 => -5
            margin 0 4 => -2
            margin 0 -1 => -2
            margin 2 0 => -2
            margin -1 0 => -2
            place 0 153 => 1    # delay 9, level 6
            margin 0 0 => 1
            margin 0 1 => 3
            margin 0 2 => 1
            margin 0 3 => 3
            """ + "tell " + HEAD + LANE + "passes : 1 = 1; => 3\n" + """
            place 0 29 => 1
            margin 0 0 => 5
            margin 0 1 => 18
            margin 0 2 => 1
            margin 0 3 => 14
            place 0 24 => 1
            margin 0 0 => 0
            margin 0 2 => 1
            place 0 359 => 1
            margin 0 1 => 0
            margin 0 3 => 1
            margin 0 2 => 14
            place 0 0 => 1
            margin 0 1 => 23
            margin 0 3 => 15
            place 0 383 => 1
            margin 0 0 => 23
            margin 0 2 => 15
            """);
    }

    private static void edges() {
        run(26, "new\ntell lab aspect 1 hold 2;lane at 5 level 0 wide 1 high 1;lane at 0 level 0 wide 1 high 1;"
            + "lane at 22 level 0 wide 1 high 1;lane at 23 level 0 wide 1 high 1;drifts : time; => 6\n" + """
            edge 0 => 5
            edge 1 => -1        # its CLOCK has RISEN at 0
            edge 2 => 22
            edge 3 => -1        # it can't be seen to hold
            edge 4 => -2
            edge -1 => -2
            ticks 1 => 0
            edge 0 => 6
            edge 1 => 1
            edge 2 => -1
            """ + "tell lab aspect 1 hold 3;" + LANE
            + "edge : delay = 3 or delay > 5 and delay < 8 or delay > 10 and delay < 14 or delay > 20; => 3\n" + """
            edge 0 => 11
            """ + "tell lab aspect 1 hold 4;" + LANE + "edge : delay < 9 or delay > 19; => 3\n" + """
            edge 0 => 20
            """ + "tell lab aspect 1 hold 5;" + LANE + "edge : delay < 9 or delay > 19; => 3\n" + """
            edge 0 => -1
            """);
        run(27, "new\ntell " + PLAIN + "lane at 12 level 2 wide 2 high 2; => 8\n" + """
            lag 0 => 2
            lag 1 => 7
            lag 2 => 0
            lag 3 => -2
            lag -1 => -2
            pattern 3 => -1     # a STRESS of 2 leaves lanes 1 and 2 none
            lag 0 => -1
            lag 3 => -2
            """ + "tell " + HEAD + LANE + LANE + "passes : delay = 0 or level = 1 and delay < lane; => 4\n" + """
            lag 0 => 0
            lag 1 => 0
            """);
        run(28, "new\nbus 0 => -1\nbus 1 => -1\nbus 2 => -1\nbus 3 => -2\nbus -1 => -2\ntell " + HEAD + LANE + LANE
            + "passes : level = 0 and [delay > 2 and delay < 6 or delay > 7 and delay < 11 or delay = 20]"
            + " or level = 1 and delay > lane * 9; => 4\n" + """
            bus 0 => 1050424    # 3 to 5, 8 to 10, 20
            bus 1 => 3
            bus 2 => 3          # of like ones the first
            place 1 24 => 0
            bus 0 => 1049600    # 10, 20
            bus 1 => 1
            bus 2 => 10
            place 0 25 => 1
            bus 0 => 16776192   # 10 to 23
            bus 1 => 14
            bus 2 => 10
            place 0 48 => 0
            bus 0 => 0
            bus 1 => 0
            bus 2 => -1
            bus 3 => -2
            """);
    }

    private static void patterns() {
        run(29, "new\ntell " + PLAIN + " => 7\n" + """
            harshest 0 => 2
            harshest 1 => 0     # 3 and 9 leave it none: the first
            harshest 2 => -2
            harshest -1 => -2
            pattern 1 => -1
            harshest 0 => 2
            """ + "tell " + HEAD + LANE + "drifts : time;pattern 1;pattern 2;passes : stress = 1 + drift; => 6\n" + """
            harshest 0 => 1
            ticks 1 => 0
            harshest 0 => 0
            """ + "tell " + HEAD + LANE + " => 2\nharshest 0 => -1\nharshest 1 => -2\n");
        String apart = "tell " + HEAD + LANE + LANE + "pattern 1;pattern 2;pattern 3;pattern 4;passes : ";
        run(30, "new\ntell " + PLAIN + " => 7\n" + """
            tell 0 0 => 1
            tell 0 1 => 4       # STRESS 9 leaves no CELL
            tell 1 0 => 1
            tell 1 1 => 1       # STRESS 3 does already
            tell 0 2 => -2
            tell 0 -1 => -2
            tell 2 0 => -2
            tell -1 0 => -2
            """ + apart + "not delay = stress; => 8\n" + """
            tell 0 0 => 4
            tell 0 1 => 15
            """ + apart + "lane = 1 or stress < 3 and delay < 5 or stress > 2 and delay > 2; => 8\n" + """
            tell 0 0 => 2
            tell 0 1 => 5       # one of 0, 1 and one of 2, 3: the least
            tell 1 0 => 0       # none tell as much: all CELLS
            tell 1 1 => 0
            """ + apart + "stress * 5 < delay or stress = 4; => 8\n" + """
            tell 0 0 => 1
            tell 0 1 => 4
            """ + "tell " + HEAD + LANE + " => 2\ntell 0 0 => -1\ntell 0 1 => -1\ntell 0 2 => -2\ntell 1 0 => -2\n");
    }

    private static void going() {
        run(31, "new\ntell " + PLAIN + "drifts : time; => 8\n" + """
            place 0 178 => 1
            later 0 0 => 1
            later 0 3 => 1
            later 0 4 => 0
            later 0 97 => 0     # a DRIFT of 15
            later 0 100 => 1
            later 0 103 => 1
            later 0 104 => 0
            later 0 999 => 0
            later 0 1000 => -3
            later 0 -1 => -3
            later 2 1000 => -2
            later -1 0 => -2
            count 4 => 0
            ticks 2 => 1
            later 0 1 => 1
            later 0 2 => 0
            later 0 98 => 1
            """);
        run(32, """
            undo 1 => 1
            holds 0 => 4
            holds 1 => 0        # it doesn't pass now
            holds 2 => -2
            holds -1 => -2
            ticks 2 => 1
            holds 0 => 2
            pattern 3 => -1
            place 0 180 => 1    # by a STRESS of 2: 11 to 13
            holds 0 => 2
            """ + "tell " + HEAD + LANE + "drifts : if time = 99 then 1 else 0 end;passes : delay = 0 and drift = 0; => 4\n" + """
            holds 0 => 99
            ticks 50 => 1
            holds 0 => 49
            """ + "tell " + HEAD + LANE + "drifts : time;passes : drift > 0 - 9; => 4\n" + """
            holds 0 => -1
            """);
        run(33, "new\ntell " + HEAD + "lane at 3 level 0 wide 3 high 1;" + LANE + "drifts : time; => 4\n" + """
            place 0 3 => 1      # 1 to 5, drifting right for 15 ticks, back at 100
            follows 0 => 100
            holds 0 => 3
            place 0 0 => 0
            follows 0 => 0
            follows 2 => -2
            follows -1 => -2
            count 4 => 0
            """ + "tell " + HEAD + LANE + "drifts : time;passes : delay > drift * 2 - 1 and delay < 9 + drift * 2; => 4\n" + """
            place 0 4 => 1      # in 0 to 8; 5 in 2 to 10, 6 in 4 to 12, 7 in 6 to 14, then 8 to 16
            follows 0 => 4
            holds 0 => 3
            ticks 1 => 1
            follows 0 => 2      # 5 in 4 to 12, then 6 to 14
            """ + "tell " + HEAD + LANE + "passes : delay < 9; => 3\n" + """
            follows 0 => -1
            """ + "tell " + HEAD + LANE + LANE + "drifts : time;passes : delay < 9 + lane; => 5\n" + """
            follows 1 => -1
            """);
        run(34, "new\ntell " + HEAD + "lane at 3 level 2 wide 3 high 1;drifts : time; => 3\n" + """
            place 0 51 => 1
            at 0 0 => 51
            at 0 1 => 52
            at 0 15 => 66
            at 0 99 => 66
            at 0 100 => 66      # it is lost
            at 0 999 => 66
            at 0 1000 => -3
            at 0 -1 => -3
            at 1 1000 => -2
            at -1 0 => -2
            lane 0 4 => 51
            count 4 => 0
            """ + "tell " + HEAD + LANE + "passes : delay < 9; => 3\n" + """
            place 0 8 => 1
            at 0 1 => 7
            at 0 4 => 4
            at 0 999 => 4
            place 0 20 => 0
            at 0 9 => 20
            """);
    }

    private static void steps() {
        run(35, "new\ntell " + PLAIN + " => 7\n" + """
            steps 0 => 14       # to delay 9, level 5
            steps 1 => 8
            place 0 178 => 1
            steps 0 => 0
            place 0 383 => 0
            steps 0 => 18       # from delay 23, level 15 to delay 11, level 9
            steps 2 => -2
            steps -1 => -2
            pattern 2 => -1
            steps 0 => -1
            """);
        run(36, "new\ntell " + HEAD + LANE
            + "passes : delay = 3 and level = 5 or delay = 5 and level = 3 or delay = 4 and level = 9; => 3\n" + """
            way 0 0 => 1        # delay more comes ahead of level more: 1 1 1 1 1 3 3 3
            way 0 4 => 1
            way 0 5 => 3
            way 0 7 => 3
            way 0 8 => -1
            way 0 2147483647 => -1
            way 0 -1 => -3
            way 1 -1 => -2
            way -1 0 => -2
            place 0 101 => 0    # delay 5, level 4: delay less 2, level 1 more, or level 1 less
            steps 0 => 1
            way 0 0 => 2
            place 0 383 => 0    # delay 23, level 15: to delay 4, level 9
            steps 0 => 25
            way 0 0 => 0
            way 0 18 => 0
            way 0 19 => 2
            way 0 24 => 2
            way 0 25 => -1
            place 0 77 => 1
            way 0 0 => -1
            """ + "tell " + HEAD + LANE + "passes : 1 = 2; => 3\nway 0 0 => -1\nway 0 -1 => -3\n");
        run(37, "new\ntell " + HEAD + LANE + LANE + "passes : lane = 1 or delay = 0 and level = 0; => 4\n" + """
            ways 0 0 => 1
            ways 0 1 => 0
            ways 0 2 => 2
            ways 0 4 => 10
            ways 1 0 => 1
            ways 1 1 => 2       # a STEP stays within CELLS
            ways 1 2 => 6
            ways 1 3 => 18
            ways 1 20 => 65166353196
            place 1 204 => 1
            ways 1 1 => 4
            ways 1 3 => 64
            ways 1 20 => 1081953282137
            place 1 383 => 1
            ways 1 1 => 2
            ways 1 2 => 6
            place 1 23 => 1
            ways 1 1 => 2
            place 0 1 => 0
            ways 0 0 => 0
            ways 0 1 => 1
            ways 1 21 => -3
            ways 1 -1 => -3
            ways 2 21 => -2
            ways -1 0 => -2
            """);
    }

    private static void seen() {
        run(38, "new\ndrifts 0 0 => -2\ntell " + PLAIN + "drifts : time; => 8\n" + """
            drifts 0 0 => -6
            drifts 4 0 => -2
            drifts -1 0 => -2
            drifts 0 2 => -2
            drifts 0 -1 => -2
            numbers 0 2 0 => 0
            drifts 0 0 => -4
            numbers 0 2 9 => 0
            drifts 0 0 => -4
            numbers 0 2 8 => 0
            drifts 0 0 => 2147483647    # 0, eight times: it didn't pass in CELL 0, by no DRIFT it does
            write 0 7 768 => 768
            drifts 0 0 => -3
            write 0 7 -1 => -1
            drifts 0 0 => -3
            write 0 7 767 => 767
            drifts 0 0 => 0
            write 0 7 357 => 357        # it passed at delay 10, level 7
            drifts 0 0 => 520192        # -3 to 3: bits 12 to 18
            write 0 6 351 => 351        # and at delay 7
            drifts 0 0 => 61440         # -6 to 0 there: bits 12 to 15 are left
            write 0 5 348 => 348        # but not at delay 6
            drifts 0 0 => 32768         # 0 alone
            ticks 5 => 0                # the TIME tells nothing
            drifts 0 0 => 32768
            pattern 0 => -1             # by a STRESS of 3 none
            drifts 0 0 => 0
            """);
        run(39, "new\ntell " + PLAIN + "drifts : time; => 8\n" + """
            attempt 0 0 => -6
            attempt 4 0 => -2
            attempt 0 2 => -2
            numbers 0 2 0 => 0
            attempt 0 0 => -4
            numbers 0 2 1 => 0
            write 0 0 768 => 768
            attempt 0 0 => -3
            write 0 0 767 => 767
            attempt 0 0 => -1           # there are none
            write 0 0 357 => 357        # -3 to 3 left: 4 of these at best
            attempt 0 0 => 128          # delay 8, level 5: passes by -3, -2, -1: 3 against 4
            numbers 0 2 4 => 0
            write 0 0 357 => 357
            write 0 1 351 => 351
            write 0 2 348 => 348
            attempt 0 0 => 0            # a single one left: any CELL is as good
            pattern 0 => -1
            attempt 0 0 => -1
            numbers 0 2 1 => 0          # that it didn't pass in CELL 0 tells nothing: 31 are left
            attempt 0 0 => 120          # level 5 is the first where it passes, by 1 of 31
            pattern -1 => 0
            attempt 0 0 => 168          # at level 7 by 7 of 31
            write 0 0 335 => 335        # it passed at delay 23, level 6: DRIFTS 11 to 15
            attempt 0 0 => 141          # level 5: delay 20 by 11 alone, delay 21 by 11 and 12: 2 of 5
            """);
    }

    private static void chances() {
        run(40, "new\ntell " + HEAD + LANE + LANE + "passes : lane = 0 and delay = 0 or lane = 1 and delay = 23; => 4\n" + """
            chance 0 0 0 => 1
            chance 0 0 1 => 1
            chance 0 1 0 => 9   # 0 at least
            chance 0 1 1 => 10
            chance 0 2 0 => 41  # 0.9 times 0.9, 0.1 times 0.1: 82 of 100
            chance 0 2 1 => 50
            chance 1 6 0 => 0
            chance 1 6 1 => 1
            place 1 23 => 1
            chance 1 1 0 => 9   # 23 at most
            chance 1 1 1 => 10
            place 1 22 => 0
            chance 1 0 0 => 0
            chance 1 0 1 => 1
            chance 1 1 0 => 1
            chance 1 1 1 => 10
            place 1 17 => 0
            chance 1 6 0 => 1
            chance 1 6 1 => 1000000
            place 1 5 => 0
            chance 0 7 0 => -3
            chance 0 -1 0 => -3
            chance 0 7 2 => -2
            chance 0 1 -1 => -2
            chance 2 7 0 => -2
            chance -1 0 0 => -2
            """ + "tell " + HEAD + LANE + "drifts : time;passes : 1 = 1; => 4\n" + """
            chance 0 6 0 => 1
            chance 0 6 1 => 1
            """ + "tell " + HEAD + LANE + "passes : delay = 9 and level = 7 or delay < 3 and level = 9; => 3\n" + """
            place 0 177 => 1
            chance 0 1 0 => 4
            chance 0 1 1 => 5
            chance 0 2 0 => 33  # 64 and twice 1 of 100
            chance 0 2 1 => 50
            """);
        run(41, "new\nmean 3 0 => 0\nmean 3 1 => 1\ntell " + HEAD + LANE + LANE
            + "passes : lane = 0 and delay = 0 or lane = 1 and delay = 23; => 4\n" + """
            mean 0 0 => 1
            mean 0 1 => 1
            place 1 23 => 1
            mean 0 0 => 2
            mean 0 1 => 1
            mean 1 0 => 9       # 9 and 9 of 10
            mean 1 1 => 5
            mean 2 0 => 41      # 82 and 82 of 100
            mean 2 1 => 25
            place 1 22 => 0
            mean 1 0 => 1
            mean 1 1 => 1
            mean 7 0 => -3
            mean -1 0 => -3
            mean 7 2 => -2
            mean 0 -1 => -2
            """);
    }

    private static void images() {
        run(45, "new\nimage 2 => -2\nimage -1 => -2\nimage 0 => 0\ntell " + PLAIN + "drifts : time; => 8\n" + """
            place 0 178 => 1
            ticks 2 => 1
            pattern 3 => -1
            image 1 => 0
            count 7 => 3        # all is as it was
            lane 0 4 => 178
            """);
        run(46, """
            restore 2 => -2
            restore -1 => -2
            numbers 0 2 1 => 0
            write 0 0 101 => 101
            tell lab; => -32
            feed 1818321440 1634955365 1668554801 543715180 1679831355 => 20
            restore 0 => 0      # made ahead of any text
            count 0 => 0
            count 1 => 0
            count 2 => 1
            count 3 => 1
            count 4 => 0
            count 5 => -1
            count 7 => 0
            count 8 => 20       # THE TAPE stays
            count 9 => 0
            fault 1 => 3        # and the FAULT
            drift 5 => 0
            undo 1 => -3
            restore 1 => 0
            count 0 => 2
            count 2 => 2
            count 3 => 3
            count 4 => 2
            count 5 => 3
            count 7 => 0
            count 9 => 8
            lane 0 4 => 178
            drift 5 => 5
            area 0 => 11
            judge 0 2 => 180    # the TRAY stays; delay 12 by the DRIFT of 2
            lab 20 => 1
            restore 1 => 0      # and again
            place 0 0 => 0
            restore 1 => 0
            lane 0 4 => 178
            image 1 => 0
            ticks 1 => 0
            image 1 => 0        # in place of the former one
            restore 1 => 0
            count 4 => 3
            """);
        run(46, "new\nrestore 0 => -5\nrestore 1 => -5\nimage 0 => 0\nrestore 1 => -5\nrestore 0 => 0\n");
    }

    private static void counts() {
        run(47, "new\ntell " + PLAIN + "drifts : time; => 8\n" + """
            place 1 101 => 1
            count 6 => 2
            place 0 178 => 1
            ticks 1 => 2
            pattern 1 => -1
            count 0 => 2
            count 1 => 4
            count 2 => 2
            count 3 => 3
            count 4 => 1
            count 5 => 1
            count 6 => 3
            count 7 => 4
            count 8 => 0
            feed 0 0 0 0 0 => 20
            count 8 => 20
            count 9 => 8
            count 10 => -1
            count -1 => -1
            """);
    }
}
