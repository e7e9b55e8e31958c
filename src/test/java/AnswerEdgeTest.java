/** Boundary cases of promises 8 to 29 and of the words of parts 2 to 4: sets, ends, turns, copies, ties. */
public final class AnswerEdgeTest {
    private static final String EIGHT = "person weight 1;".repeat(8);
    private static final String RISING = "person weight 1 likes 0 over 1 over 2;";
    private static final String FALLING = "person weight 1 likes 2 over 1 over 0;";
    // Whoever strikes last of these two has its way.
    private static final String TWO = "things 3;" + RISING + "person weight 1 likes 1 over 0 over 2;turns 0 1;";
    private static final Edge EDGE = new Edge("AnswerEdgeTest");

    public static void main(String[] args) {
        mayAtMost();
        mayByParts();
        mayBySteps();
        mayByTold();
        mayOfOthers();
        keeps();
        strikes();
        strikers();
        cores();
        someRows();
        refusedSomeRows();
        plainEnds();
        byRows();
        deepEnds();
        backEnds();
        falseOrders();
        trades();
        grumbles();
        least();
        heads();
        head();
        copies();
        without();
        adding();
        ways();
        sureNeverOpen();
        asking();
        EDGE.end(8, 29);
    }

    /** A hall with rows, holders and twenty bytes on the tape: whatever changes can be seen. */
    private static StrikeHall busy() {
        StrikeHall x = new StrikeHall();
        Tape.feed(x, TWO);
        x.hall(TWO.length());
        x.row(2, 0x12);
        x.hold(0, 0, 2);
        x.hold(7, 1, 0);
        Tape.feed(x, "things 5;law told 4;");
        return x;
    }

    /** The same with nine things, where no copy has room. */
    private static StrikeHall busyNine() {
        StrikeHall x = new StrikeHall();
        String text = "things 9;person weight 2 likes 8 over 0;person weight 1;turns 1 0;";
        Tape.feed(x, text);
        x.hall(text.length());
        x.row(2, 0x88);
        x.hold(3, 0, 8);
        x.hold(4, 1, 0);
        return x;
    }

    private interface ByNumber {
        Object answer(StrikeHall x, int number);
    }

    private static void noSuch(String call, int firstAbove, ByNumber tried) {
        EDGE.throwsNone(AnswerEdgeTest::busy, call + " " + firstAbove, x -> tried.answer(x, firstAbove));
        for (int far : Edge.FAR) {
            EDGE.throwsNone(AnswerEdgeTest::busy, call + " " + far, x -> tried.answer(x, far));
        }
    }

    private static void mayAtMost() {
        EDGE.says(8, "at most m - 1");
        for (int m = 2; m <= 9; m++) {
            String start = "things " + m + ";person weight 99;";
            EDGE.due("parts of " + m, EDGE.told(start).may(1), m - 1);
            EDGE.due("steps of " + m, EDGE.told(start + "law steps 1;").may(1), m - 1);
            EDGE.due("told of " + m, EDGE.told(start + "law told 9;").may(1), m - 1);
            EDGE.due("told one less", EDGE.told(start + "law told " + (m - 2) + ";").may(1), m - 2);
        }
    }

    private static void mayByParts() {
        EDGE.says(8, "m times its WEIGHT by that of all, cut up, less 1 (0 of nobody)");
        StrikeHall even = EDGE.told("things 4;person weight 1;person weight 1;person weight 2;");
        int[] byFour = {0, 0, 0, 1, 1, 2, 2, 3};
        for (int set = 0; set < 8; set++) {
            EDGE.due("nothing to cut, set " + set, even.may(set), byFour[set]);
        }
        StrikeHall odd = EDGE.told("things 4;person weight 1;person weight 1;person weight 1;");
        EDGE.due("4 by 3", odd.may(2), 1);
        EDGE.due("8 by 3", odd.may(6), 2);
        StrikeHall small = EDGE.told("things 2;person weight 1;person weight 99;");
        EDGE.due("2 by 100", small.may(1), 0);
        EDGE.due("198 by 100", small.may(2), 1);
        StrikeHall most = EDGE.told("things 9;" + "person weight 99;".repeat(8));
        EDGE.due("of all", most.may(255), 8);
        EDGE.due("of one, 9 by 8", most.may(128), 1);
        EDGE.due("of seven, 63 by 8", most.may(127), 7);
    }

    private static void mayBySteps() {
        EDGE.says(8, "its WEIGHT by the NUMBER, cut down");
        StrikeHall x = EDGE.told("things 5;person weight 5;person weight 6;person weight 1;law steps 6;");
        int[] want = {0, 0, 1, 1, 0, 1, 1, 2};
        for (int set = 0; set < 8; set++) {
            EDGE.due("set " + set, x.may(set), want[set]);
        }
        StrikeHall far = EDGE.told("things 5;" + "person weight 99;".repeat(8) + "law steps 792;");
        EDGE.due("all just reach it", far.may(255), 1);
        EDGE.due("one less does not", far.may(254), 0);
        EDGE.due("out of reach", EDGE.told("things 5;" + "person weight 99;".repeat(8) + "law steps 999;").may(255), 0);
    }

    private static void mayByTold() {
        EDGE.says(8, "the first of one, the last of as many as there are NUMBERS, or more; 0 of nobody");
        StrikeHall x = EDGE.told("things 9;" + EIGHT + "law told 7 0 3;");
        int[] want = {0, 7, 0, 3, 3, 3, 3, 3, 3};
        for (int many = 0; many <= 8; many++) {
            EDGE.due("of " + many, x.may((1 << many) - 1), want[many]);
            EDGE.due("of the last " + many, x.may(256 - (1 << (8 - many))), want[many]);
        }
        StrikeHall eight = EDGE.told("things 9;" + EIGHT + "law told 8 7 6 5 4 3 2 1;");
        for (int many = 1; many <= 8; many++) {
            EDGE.due("eight NUMBERS, of " + many, eight.may((1 << many) - 1), 9 - many);
        }
    }

    private static void mayOfOthers() {
        EDGE.says(8, "0 of nobody");
        String[] laws = {"law parts;", "law steps 1;", "law told 9;"};
        for (String law : laws) {
            EDGE.due("nobody, " + law, EDGE.told("things 9;person weight 99;" + law).may(0), 0);
            EDGE.due("no PEOPLE, " + law, EDGE.told("things 9;" + law).may(-1), 0);
        }
        EDGE.says(8, "(bits; others count for nothing)");
        for (String law : laws) {
            StrikeHall x = EDGE.told("things 9;person weight 9;person weight 1;" + law);
            EDGE.due("others alone, " + law, x.may(-4), 0);
            EDGE.due("the least of others, " + law, x.may(4), 0);
            EDGE.due("the sign's bit, " + law, x.may(Integer.MIN_VALUE), 0);
            EDGE.due("one with others, " + law, x.may(-4 | 1), x.may(1));
            EDGE.due("all bits, " + law, x.may(-1), 8);
        }
    }

    private static void keeps() {
        EDGE.says(9, "of nobody: all THINGS");
        for (int m = 2; m <= 9; m++) {
            EDGE.due("of " + m, EDGE.told("things " + m + ";person weight 1 likes 0;").keep(0, 0), (1 << m) - 1);
            EDGE.due("no PEOPLE, " + m, EDGE.told("things " + m + ";").keep(-1, m - 1), (1 << m) - 1);
        }
        EDGE.says(9, "a set (likewise: others count for nothing)");
        StrikeHall x = EDGE.told("things 3;" + RISING + FALLING);
        EDGE.due("others alone", x.keep(-4, 1), 7);
        EDGE.due("the sign's bit", x.keep(Integer.MIN_VALUE, 1), 7);
        EDGE.due("one with others", x.keep(-4 | 2, 1), 4);
        EDGE.says(9, "the THINGS that all of the set RATHER have");
        EDGE.due("its dearest", x.keep(1, 0), 0);
        EDGE.due("its last", x.keep(1, 2), 3);
        EDGE.due("of both none", x.keep(3, 2), 0);
        EDGE.says(9, "It RATHER has one than another, if its PLACE is less (not where they are alike)");
        EDGE.due("alike", EDGE.told("things 9;person weight 1;").keep(1, 4), 0);
        EDGE.due("the last GROUP", EDGE.told("things 9;person weight 1 likes 3;").keep(1, 4), 8);
        EDGE.says(9, "NoSuchElementException: no such THING");
        noSuch("keep", 3, (y, thing) -> y.keep(1, thing));
        EDGE.throwsNone(AnswerEdgeTest::busy, "keep of nobody", y -> y.keep(0, 3));
    }

    private static void strikes() {
        EDGE.says(10, "KEEP are no fewer than m less what it MAY strike");
        StrikeHall x = EDGE.told("things 4;person weight 1 likes 0 over 1 over 2 over 3;law told 2;");
        boolean[] want = {false, false, true, true};
        for (int thing = 0; thing < 4; thing++) {
            EDGE.due("2 are to be kept at " + thing, x.strikes(1, thing), want[thing]);
        }
        EDGE.due("MAY is 0", EDGE.told("things 2;person weight 1 likes 0;law told 0;").strikes(1, 1), false);
        StrikeHall most = EDGE.told("things 9;person weight 1 likes 8;law told 9;");
        EDGE.due("MAY is all but one, one is kept", most.strikes(1, 0), true);
        EDGE.due("MAY is all but one, none is kept", most.strikes(1, 8), false);
        EDGE.says(10, "(and it is not nobody)");
        EDGE.due("nobody", x.strikes(0, 3), false);
        EDGE.due("no PEOPLE", new StrikeHall().strikes(0, 1), false);
        EDGE.says(10, "a set (likewise: others count for nothing)");
        EDGE.due("others alone", x.strikes(-2, 3), false);
        EDGE.due("with others", x.strikes(-1, 3), true);
        EDGE.due("no PEOPLE", new StrikeHall().strikes(-1, 1), false);
        EDGE.says(10, "NoSuchElementException: no such THING");
        noSuch("strikes", 3, (y, thing) -> y.strikes(1, thing));
        EDGE.throwsNone(AnswerEdgeTest::busy, "strikes of nobody", y -> y.strikes(0, 3));
    }

    private static void strikers() {
        EDGE.says(11, "the one of fewest PEOPLE");
        StrikeHall one = EDGE.told("things 2;person weight 1 likes 1;person weight 1 likes 1;person weight 2 likes 1;law steps 2;");
        EDGE.due("2 alone, not 0 and 1", one.striker(0), 4);
        EDGE.says(11, "of like ones the first as a row of bits");
        StrikeHall pairs = EDGE.told("things 3;person weight 1 likes 1 over 0;person weight 1 likes 2 over 0;"
            + "person weight 1 likes 2 over 0;person weight 1 likes 1 over 0;law told 0 2;");
        EDGE.due("0 and 3, not 1 and 2", pairs.striker(0), 9);
        EDGE.due("the first of all", EDGE.told("things 2;" + "person weight 1 likes 1;".repeat(8) + "law told 1;").striker(0), 1);
        EDGE.due("the first three of all", EDGE.told("things 2;" + "person weight 1 likes 1;".repeat(8) + "law told 0 0 1;").striker(0), 7);
        EDGE.says(11, "of all sets (that of all PEOPLE, too)");
        StrikeHall all = EDGE.told("things 2;" + "person weight 1 likes 0;".repeat(8) + "law told 0 0 0 0 0 0 0 1;");
        EDGE.due("all eight", all.striker(1), 255);
        EDGE.says(11, "0: it is in THE CORE");
        EDGE.due("liked by all", all.striker(0), 0);
        EDGE.due("no PEOPLE", new StrikeHall().striker(1), 0);
        EDGE.says(11, "NoSuchElementException: no such THING");
        noSuch("striker", 3, StrikeHall::striker);
    }

    private static void cores() {
        EDGE.says(12, "ENDS that no set STRIKES");
        EDGE.due("none", EDGE.told("things 2;person weight 1 likes 0;person weight 1 likes 1;law told 1;").core(), 0);
        EDGE.due("one", EDGE.told("things 9;person weight 1 likes 8;").core(), 256);
        EDGE.due("all, as nobody likes one more", EDGE.told("things 9;" + EIGHT + "law told 8;").core(), 511);
        EDGE.due("all, as none may be struck", EDGE.told("things 3;" + RISING + "law told 0;").core(), 7);
        EDGE.due("all, of no PEOPLE", EDGE.told("things 9;law told 9;").core(), 511);
        EDGE.due("all eight strike 1", EDGE.told("things 2;" + "person weight 1 likes 0;".repeat(8) + "law told 0 0 0 0 0 0 0 1;").core(), 1);
    }

    private static void someRows() {
        EDGE.says(13, "till one THING is left");
        StrikeHall x = EDGE.told("things 3;" + RISING + FALLING + "law steps 1;");
        EDGE.due("one each leaves one", x.some(8), 2);
        StrikeHall heavy = EDGE.told("things 3;person weight 8 likes 0 over 1 over 2;person weight 9 likes 2 over 1 over 0;law steps 1;");
        EDGE.due("the first has struck all but one", heavy.some(8), 1);
        EDGE.due("the other one first", heavy.some(1), 4);
        EDGE.says(13, "or all have");
        StrikeHall light = EDGE.told("things 3;person weight 8 likes 0 over 1 over 2;person weight 9 likes 2 over 1 over 0;law steps 9;");
        EDGE.due("one of them may strike none", light.some(8), 6);
        EDGE.due("none may", EDGE.told("things 3;" + RISING + FALLING + "law told 0 2;").some(1), 7);
        EDGE.says(13, "each as often as it alone MAY, one behind the other");
        // 0 strikes 4 and 3, then 1 strikes 0. Taking turns, 1 would strike 3, and 0 then 2.
        StrikeHall often = EDGE.told("things 5;person weight 2 likes 0 over 1 over 2 over 3 over 4;"
            + "person weight 1 likes 2 over 1 over 0 over 4 over 3;law steps 1;");
        EDGE.due("twice, then once", often.some(8), 6);
        EDGE.says(13, "(3 bits each, the first lowest, n of them)");
        EDGE.due("no PEOPLE", new StrikeHall().some(0), 3);
        EDGE.due("no PEOPLE, all bits", new StrikeHall().some(-1), 3);
        EDGE.due("bits behind n of them", x.some(8 | -64), 2);
        StrikeHall eight = EDGE.told("things 9;" + "person weight 1 likes 0;".repeat(7) + "person weight 1 likes 8 over 1;law told 1;");
        // The last one strikes 0 (of 0 and 1) if it is the last, and 7 if it is the first.
        EDGE.due("eight", eight.some(076543210), 2);
        EDGE.due("eight, with bits behind", eight.some(076543210 | 0xff000000), 2);
        EDGE.due("eight, the last one first", eight.some(001234567), 1);
        StrikeHall seven = EDGE.told("things 9;" + "person weight 1 likes 0;".repeat(6) + "person weight 1 likes 8 over 2;law told 1;");
        // The last one strikes 1 (of 0, 1 and 2) if it is the last, and 7 if it is the first.
        EDGE.due("seven, the last one last", seven.some(06543210), 5);
        EDGE.due("seven, the last one first", seven.some(00123456), 3);
        EDGE.due("seven, with bits behind", seven.some(06543210 | -1 << 21), 5);
    }

    private static void refusedSomeRows() {
        EDGE.says(13, "NoSuchElementException: one that there isn't (0 to n - 1)");
        EDGE.throwsNone(AnswerEdgeTest::busy, "some of 2 first", x -> x.some(2 | 0 << 3));
        EDGE.throwsNone(AnswerEdgeTest::busy, "some of 2 last", x -> x.some(0 | 2 << 3));
        EDGE.throwsNone(AnswerEdgeTest::busy, "some of 7", x -> x.some(7 | 1 << 3));
        EDGE.throwsNone(AnswerEdgeTest::busy, "some of all bits", x -> x.some(-1));
        EDGE.due("one alone", EDGE.told("things 3;" + RISING).some(0), 1);
        EDGE.throwsNone(() -> EDGE.told("things 3;" + RISING), "some of 1, of one", x -> x.some(1));
        String seven = "things 2;" + "person weight 1;".repeat(7);
        EDGE.due("6 of seven", EDGE.told(seven).some(06543210), 3);
        EDGE.throwsNone(() -> EDGE.told(seven), "some of 7 of seven", x -> x.some(07543210));
        EDGE.says(13, "NoSuchElementException: told twice");
        EDGE.throwsNone(AnswerEdgeTest::busy, "some of 0 twice", x -> x.some(0));
        EDGE.throwsNone(AnswerEdgeTest::busy, "some of 1 twice", x -> x.some(9));
        EDGE.throwsNone(() -> EDGE.told("things 2;" + EIGHT), "some of 0 first and last", x -> x.some(006543210));
        EDGE.throwsNone(() -> EDGE.told("things 2;" + EIGHT), "some of 7 twice at last", x -> x.some(077543210));
    }

    private static void plainEnds() {
        EDGE.says(14, "what is left behind all TURNS, as bits");
        EDGE.due("no TURNS", EDGE.told("things 9;person weight 1;").plain(), 511);
        EDGE.due("one", EDGE.told("things 9;person weight 1 likes 8;turns 0;").plain(), 383);
        EDGE.due("m - 1", EDGE.told("things 9;person weight 1 likes 8;turns 0 0 0 0 0 0 0 0;").plain(), 256);
        EDGE.due("two things", EDGE.told("things 2;person weight 1 likes 1;turns 0;").plain(), 2);
        EDGE.says(14, "the one of its greatest PLACE, of like ones the greatest number");
        EDGE.due("alike", EDGE.told("things 4;person weight 1;turns 0;").plain(), 7);
        EDGE.due("alike in the last GROUP", EDGE.told("things 4;person weight 1 likes 3;turns 0;").plain(), 11);
        EDGE.due("not alike", EDGE.told("things 4;person weight 1 likes 3 over 2 over 1 over 0;turns 0;").plain(), 14);
        EDGE.says(14, "of THINGS that are left");
        EDGE.due("both strike 3 if they can", EDGE.told("things 4;person weight 1 likes 0 over 1 over 2;person weight 1 likes 1 over 2 over 0;turns 0 1;").plain(), 6);
    }

    private static void byRows() {
        EDGE.says(15, "each row that is another one counts once");
        EDGE.due("no TURNS", EDGE.told("things 2;person weight 1;").rows(2), 1);
        EDGE.due("no PEOPLE", new StrikeHall().rows(2), 1);
        EDGE.due("one", EDGE.told("things 2;person weight 1;turns 0;").rows(2), 1);
        EDGE.due("eight alike", EDGE.told("things 9;person weight 1;turns 0 0 0 0 0 0 0 0;").rows(2), 1);
        int[] unlike = {1, 2, 6, 24, 120, 720, 5040, 40320};
        for (int many = 1; many <= 8; many++) {
            EDGE.due(many + " unlike", EDGE.told("things 9;" + EIGHT + "turns" + " 0 1 2 3 4 5 6 7".substring(0, 2 * many) + ";").rows(2), unlike[many - 1]);
        }
        EDGE.due("one unlike", EDGE.told("things 9;" + EIGHT + "turns 0 0 0 0 0 0 7 0;").rows(2), 8);
        EDGE.due("four and four", EDGE.told("things 9;" + EIGHT + "turns 0 1 0 1 0 1 0 1;").rows(2), 70);
        EDGE.due("a pair", EDGE.told("things 4;" + EIGHT + "turns 0 7 0;").rows(2), 3);
        EDGE.says(15, "which are left behind some (what 0), behind all (1)");
        EDGE.due("no TURNS, some", EDGE.told("things 9;").rows(0), 511);
        EDGE.due("no TURNS, all", EDGE.told("things 9;").rows(1), 511);
        EDGE.due("unlike ends, some", EDGE.told(TWO).rows(0), 3);
        EDGE.due("unlike ends, all", EDGE.told(TWO).rows(1), 0);
        // Each strikes its own worst of five, in either row.
        StrikeHall apart = EDGE.told("things 5;person weight 1 likes 1 over 2 over 3 over 4 over 0;person weight 1 likes 0 over 1 over 2 over 3 over 4;turns 0 1;");
        EDGE.due("like ends, some", apart.rows(0), 14);
        EDGE.due("like ends, all", apart.rows(1), 14);
        StrikeHall eight = EDGE.told("things 9;" + "person weight 1 likes 0;".repeat(7) + "person weight 1 likes 8 over 1;turns 0 1 2 3 4 5 6 7;");
        // The last of PEOPLE strikes 0 if its turn is the last one, so 1 is left; if it is the first one, 0 is left.
        EDGE.due("eight, some", eight.rows(0), 3);
        EDGE.due("eight, all", eight.rows(1), 0);
        for (int end = 0; end < 9; end++) {
            StrikeHall one = EDGE.told("things 9;" + ("person weight 1 likes " + end + ";").repeat(2) + "turns 0 1 0 1 0 1 0 1;");
            EDGE.due(end + " alone, some", one.rows(0), 1 << end);
            EDGE.due(end + " alone, all", one.rows(1), 1 << end);
        }
        EDGE.says(15, "BY ROWS of THE HALL that is there now");
        StrikeHall now = EDGE.told(TWO);
        EDGE.due("ahead", now.rows(0), 3);
        EDGE.due("a copy of 2", now.add(2), 3);
        // The copy and 2 are the worst of both, so they go.
        EDGE.due("with a copy, all", now.rows(1), 3);
        Tape.feed(now, "things 3;person weight 1 likes 2;turns 0 0;");
        EDGE.due("hall", now.hall(43), 0);
        EDGE.due("a new HALL, some", now.rows(0), 4);
        EDGE.due("a new HALL, all", now.rows(1), 4);
        Tape.feed(now, "things 9;");
        EDGE.due("hall", now.hall(9), 0);
        EDGE.due("one without TURNS", now.rows(1), 511);
        EDGE.says(15, "NoSuchElementException: another what");
        noSuch("rows", 3, StrikeHall::rows);
    }

    private static void deepEnds() {
        EDGE.says(16, "DEEP END: what is left so");
        EDGE.due("no TURNS", EDGE.told("things 9;person weight 1;").deep(), 511);
        EDGE.due("no PEOPLE", new StrikeHall().deep(), 3);
        EDGE.due("one turn", EDGE.told("things 4;person weight 1 likes 3 over 1 over 2 over 0;turns 0;").deep(), 14);
        // 1 will strike of 0 and 2 the one that it likes less, so 0 strikes what 1 would keep against it.
        EDGE.due("one sees to the end", EDGE.told(TWO).deep(), 1);
        EDGE.due("m - 1 turns", EDGE.told("things 9;person weight 1 likes 7;turns 0 0 0 0 0 0 0 0;").deep(), 128);
        greatestAheadOfSum();
        EDGE.says(16, "of like ones the least sum of PLACES");
        EDGE.due("1 and 2 are alike", EDGE.told("things 3;person weight 1 likes 0;turns 0;").deep(), 5);
        EDGE.due("0 and 1 are alike", EDGE.told("things 3;person weight 1 likes 2;turns 0;").deep(), 6);
        EDGE.says(16, "of like ones the least THING");
        EDGE.due("all alike", EDGE.told("things 4;person weight 1;turns 0;").deep(), 14);
        EDGE.due("all alike, twice", EDGE.told("things 4;person weight 1;turns 0 0;").deep(), 12);
        EDGE.says(17, "NONE: there is none");
        EDGE.due("no TURNS", EDGE.told("things 9;person weight 1;").first(), StrikeHall.NONE);
        EDGE.due("no PEOPLE", new StrikeHall().first(), StrikeHall.NONE);
        EDGE.says(17, "What the first TURN strikes so");
        EDGE.due("against the other one", EDGE.told(TWO).first(), 1);
        EDGE.due("the sum", EDGE.told("things 3;person weight 1 likes 0;turns 0;").first(), 1);
        EDGE.due("the least THING", EDGE.told("things 9;person weight 1;turns 0 0 0 0 0 0 0 0;").first(), 0);
        EDGE.due("the greatest THING", EDGE.told("things 9;person weight 1 likes 0 over 1 over 2 over 3 over 4 over 5 over 6 over 7;turns 0;").first(), 8);
    }

    /** Random halls hardly ever tell these two apart, so OracleTest would not notice: these halls were searched for. */
    private static void greatestAheadOfSum() {
        EDGE.says(16, "the greatest PLACE (for it) of what is left at last is least, of like ones the least sum of PLACES");
        // Behind 1 or 2 come 0 and 3 (greatest 3, sum 5), behind 4 come 1 and 2 (4, 4), behind 0 or 3 worse ones.
        StrikeHall five = EDGE.told("things 5;person weight 1 likes 1 over 4 over 3 over 0 over 2;"
            + "person weight 1 likes 2 over 1 over 3 over 0 over 4;person weight 1 likes 0 and 4;turns 0 2 1;");
        EDGE.due("0 and 3", five.deep(), 9);
        EDGE.due("behind 1", five.first(), 1);
        // Behind 5 come 2, 3 and 4 (greatest 4, sum 8), behind 2 come 1, 4 and 5 (5, 6): a sum less by 2 counts no more.
        StrikeHall six = EDGE.told("things 6;person weight 1 likes 1 over 4 over 0 over 2 over 3;"
            + "person weight 1 likes 2;person weight 1 likes 1;turns 0 1 2;");
        EDGE.due("2, 3 and 4", six.deep(), 28);
        EDGE.due("behind 5", six.first(), 5);
    }

    private static void backEnds() {
        EDGE.says(18, "TURNS gone through from the last one to the first");
        EDGE.due("no TURNS", EDGE.told("things 9;person weight 1;").back(), 511);
        EDGE.due("no PEOPLE", new StrikeHall().back(), 3);
        EDGE.due("one", EDGE.told("things 2;person weight 1 likes 1;turns 0;").back(), 2);
        EDGE.due("two", EDGE.told(TWO).back(), 1);
        StrikeHall x = EDGE.told("things 4;person weight 1 likes 0 over 1 over 2 over 3;person weight 1 likes 2 over 1 over 0 over 3;turns 0 0 1;");
        EDGE.due("1 strikes 3, 0 strikes 2 and 1", x.back(), 1);
        EDGE.due("from the first: 3, 2 and 0", x.plain(), 2);
        EDGE.due("m - 1", EDGE.told("things 9;person weight 1;turns 0 0 0 0 0 0 0 0;").back(), 1);
    }

    private static void falseOrders() {
        String five = "things 5;person weight 1 likes 0 over 1 over 2 over 3 over 4;person weight 1 likes 1 over 0 over 2 over 3 over 4;turns 0 0 0 1;";
        EDGE.says(19, "m at most 5");
        // With 0 2 1 3 4 it strikes 4, 3, 1, and 2 is left for the other one to strike.
        EDGE.due("5", EDGE.told(five).lie(0), 0x43120);
        EDGE.says(19, "NONE: m is above 5");
        StrikeHall six = EDGE.told(five);
        six.add(4);
        EDGE.due("6", six.count(0), 6);
        EDGE.due("6, of 0", six.lie(0), StrikeHall.NONE);
        EDGE.due("6, told, where one would pay", EDGE.told("things 6;person weight 1 likes 0 over 1 over 2 over 3 over 4 over 5;"
            + "person weight 1 likes 1 over 0 over 2 over 3 over 4 over 5;turns 0 0 0 0 1;").lie(0), StrikeHall.NONE);
        EDGE.due("9", EDGE.told("things 9;person weight 1;").lie(0), StrikeHall.NONE);
        EDGE.says(19, "NONE: none does");
        EDGE.due("it has its dearest", EDGE.told(TWO).lie(1), StrikeHall.NONE);
        EDGE.due("no TURNS", EDGE.told("things 3;" + RISING).lie(0), StrikeHall.NONE);
        EDGE.due("it has no TURN", EDGE.told("things 3;" + RISING + FALLING + "turns 0 0;").lie(1), StrikeHall.NONE);
        EDGE.due("all is alike to it", EDGE.told("things 3;person weight 1;" + RISING + "turns 0 1;").lie(0), StrikeHall.NONE);
        EDGE.due("two things", EDGE.told("things 2;person weight 1 likes 1;turns 0;").lie(0), StrikeHall.NONE);
        EDGE.says(19, "The first FALSE ORDER (as a row), 4 bits each, the dearest lowest");
        EDGE.due("0 over 2 over 1", EDGE.told(TWO).lie(0), 0x120);
        EDGE.due("the first of all", EDGE.told("things 3;person weight 1 likes 0 over 2 over 1;person weight 1 likes 2 over 0 over 1;turns 0 1;").lie(0), 0x210);
        EDGE.says(19, "A FALSE ORDER (of all m THINGS, no two alike)");
        // 1 and 2 are alike to 1, so it strikes 2, and 0 is struck behind it; telling that it strikes 1 it keeps 0.
        EDGE.due("of one that has ties", EDGE.told("things 3;person weight 1 likes 1;person weight 1 likes 0;turns 1 0;").lie(1), 0x120);
        EDGE.says(19, "the greatest PLACE (by its own ORDER)");
        // Told 0 1 2 the end would be 0, the dearest by that order alone. Only 1 2 0 leaves what is dearer by its own.
        EDGE.due("the other one's lie", EDGE.told("things 3;" + RISING + "person weight 1 likes 1 over 0 over 2;turns 1 0;").lie(1), 0x021);
        EDGE.says(19, "NoSuchElementException: no such one of PEOPLE");
        noSuch("lie", 2, StrikeHall::lie);
        EDGE.throwsNone(StrikeHall::new, "lie without PEOPLE", x -> x.lie(0));
        EDGE.throwsNone(AnswerEdgeTest::busyNine, "lie of 2, m above 5", x -> x.lie(2));
        EDGE.throwsNone(AnswerEdgeTest::busyNine, "lie of -1, m above 5", x -> x.lie(-1));
    }

    private static void trades() {
        // Turns 2 1 0 2 1 leave 3. Changed 0 and 4, or 1 and 3, they leave 0, which 1 and 2 rather have.
        String text = "things 6;person weight 1 likes 4 over 5 over 3 over 0 over 2 over 1;person weight 1 likes 0 over 4 over 3 over 2 over 5 over 1;"
            + "person weight 1 likes 0 over 3 over 5 over 1 over 4 over 2;turns 2 1 0 2 1;";
        EDGE.says(20, "How many TRADES PAY");
        EDGE.due("two", EDGE.told(text).trades(0), 2);
        EDGE.due("none", EDGE.told(TWO).trades(0), 0);
        EDGE.due("no TURNS", EDGE.told("things 3;" + RISING + FALLING).trades(0), 0);
        EDGE.due("no PEOPLE", new StrikeHall().trades(0), 0);
        EDGE.due("one TURN", EDGE.told("things 3;" + RISING + FALLING + "turns 0;").trades(0), 0);
        EDGE.says(20, "the first of them: 8 i and j (by i, then j)");
        EDGE.due("0 and 4, not 1 and 3", EDGE.told(text).trades(1), 4);
        // Turns 2 0 1 strike 2, 1, 3; turns 0 2 1 strike 2, 0, 1.
        EDGE.due("0 and 1", EDGE.told("things 4;person weight 1 likes 3;person weight 1 likes 0 and 3;person weight 1 likes 3 and 1;turns 2 0 1;").trades(1), 1);
        // Turns 2 1 0 2 strike 4, 2, 3, 0; turns 2 0 1 2 strike 4, 2, 1, 3.
        StrikeHall later = EDGE.told("things 5;person weight 1 likes 0 over 3 and 1 and 4;person weight 1 likes 0 and 3;person weight 1 likes 2 and 1;turns 2 1 0 2;");
        EDGE.due("1 and 2", later.trades(1), 10);
        EDGE.due("1 and 2 alone", later.trades(0), 1);
        EDGE.says(20, "NONE: none does");
        EDGE.due("none", EDGE.told(TWO).trades(1), StrikeHall.NONE);
        EDGE.due("no TURNS", EDGE.told("things 3;" + RISING + FALLING).trades(1), StrikeHall.NONE);
        EDGE.due("no PEOPLE", new StrikeHall().trades(1), StrikeHall.NONE);
        EDGE.says(20, "of unlike PEOPLE");
        EDGE.due("all of one", EDGE.told("things 4;person weight 1 likes 0;turns 0 0 0;").trades(0), 0);
        EDGE.says(20, "it PAYS both, if for both of them it is less");
        // Turns 0 1 leave 1, turns 1 0 leave 0: one has its dearest behind each.
        EDGE.due("one of them alone", EDGE.told("things 3;" + RISING + "person weight 1 likes 1 over 0 over 2;turns 1 0;").trades(0), 0);
        EDGE.due("none of them", EDGE.told("things 5;" + RISING + RISING + "turns 0 1;").trades(0), 0);
        // 1 would have its dearest, 0 has all alike.
        EDGE.due("alike to the second", EDGE.told("things 3;person weight 1;person weight 1 likes 1;turns 1 0;").trades(0), 0);
        EDGE.due("alike to the first", EDGE.told("things 4;person weight 1;person weight 1 likes 3 and 0;person weight 1 likes 2 and 1;turns 0 2 1;").trades(0), 0);
        EDGE.says(20, "two TURNS change (no others)");
        EDGE.due("none", EDGE.told("things 4;person weight 1 likes 3;person weight 1 likes 1 and 3;person weight 1;turns 2 1 0;").trades(0), 0);
        EDGE.says(20, "NoSuchElementException: another what");
        noSuch("trades", 2, StrikeHall::trades);
    }

    private static void grumbles() {
        EDGE.says(21, "0 its greatest PLACE (0 without PEOPLE)");
        EDGE.due("without", EDGE.told("things 9;").grumble(8, 0), 0);
        EDGE.due("the greatest of two", EDGE.told("things 3;" + RISING + FALLING).grumble(0, 0), 2);
        EDGE.due("the first one's", EDGE.told("things 3;" + FALLING + RISING).grumble(0, 0), 2);
        EDGE.due("8", EDGE.told("things 9;person weight 1 likes 0 over 1 over 2 over 3 over 4 over 5 over 6 over 7;").grumble(8, 0), 8);
        EDGE.says(21, "1 its sum (all PLACES by WEIGHTS together)");
        EDGE.due("without", EDGE.told("things 9;").grumble(8, 1), 0);
        EDGE.due("2 times 5 and 1 times 7", EDGE.told("things 3;person weight 5 likes 0 over 1;person weight 7 likes 0;").grumble(2, 1), 17);
        EDGE.due("8 of 99 at 8", EDGE.told("things9;" + "person weight 99likes 0and 1and 2and 3and 4and 5and 6and 7;".repeat(8)).grumble(8, 1), 6336);
        EDGE.says(21, "NoSuchElementException: another what");
        noSuch("grumble of 1,", 2, (x, what) -> x.grumble(1, what));
        EDGE.throwsNone(StrikeHall::new, "grumble without PEOPLE, what 2", x -> x.grumble(0, 2));
        EDGE.says(21, "NoSuchElementException: no such THING");
        noSuch("grumble of", 3, (x, thing) -> x.grumble(thing, 0));
        noSuch("sum of", 3, (x, thing) -> x.grumble(thing, 1));
    }

    private static void least() {
        EDGE.says(22, "of THE CORE");
        // 0 alone may strike all but its dearest, which is 1's last; 1 grumbles less, but is struck.
        EDGE.due("2, not 1", EDGE.told("things 3;person weight 9 likes 2 over 1;person weight 1 likes 0 over 1;law steps 4;").least(), 2);
        EDGE.says(22, "(of all THINGS, if it is empty)");
        StrikeHall empty = EDGE.told("things 2;person weight 1 likes 0;person weight 2 likes 1;law told 1;");
        EDGE.due("core", empty.core(), 0);
        EDGE.due("least", empty.least(), 1);
        EDGE.says(22, "the least greatest PLACE, of like ones the least sum, of like ones the least THING");
        // Greatest 2, 1, 2; sums 2, 10, 18.
        EDGE.due("the greatest ahead of the sum", EDGE.told("things 3;person weight 9 likes 0 over 1 over 2;person weight 1 likes 2 over 1 over 0;law told 0;").least(), 1);
        EDGE.due("the sum", EDGE.told("things 2;person weight 1 likes 0;person weight 2 likes 1;law told 0;").least(), 1);
        EDGE.due("the least THING", EDGE.told("things 9;" + EIGHT).least(), 0);
        EDGE.due("the least THING but 0", EDGE.told("things 4;person weight 1 likes 1 and 2;law told 0;").least(), 1);
        EDGE.due("no PEOPLE", new StrikeHall().least(), 0);
        EDGE.due("the last one", EDGE.told("things 9;person weight 1 likes 8;").least(), 8);
    }

    private static void heads() {
        EDGE.says(23, "who have it in their first GROUP (if GROUPS are named)");
        EDGE.due("none named", EDGE.told("things 3;person weight 5;").heads(0), 0);
        EDGE.due("all named in one", EDGE.told("things 3;person weight 5 likes 0 and 1 and 2;").heads(2), 5);
        EDGE.due("in the last GROUP", EDGE.told("things 3;person weight 5 likes 0 and 1;").heads(2), 0);
        EDGE.due("in the second GROUP", EDGE.told("things 3;person weight 5 likes 0 over 1;").heads(1), 0);
        EDGE.due("no PEOPLE", new StrikeHall().heads(1), 0);
        EDGE.due("eight of 99", EDGE.told("things 9;" + "person weight 99 likes 8;".repeat(8)).heads(8), 792);
        StrikeHall copied = EDGE.told("things 2;person weight 5;person weight 3 likes 0 and 1;");
        copied.add(0);
        EDGE.due("none named, with a copy", copied.heads(0), 3);
        EDGE.due("the copy itself", copied.heads(2), 0);
        EDGE.says(23, "(if GROUPS are named), of THE HALL that is there now");
        Tape.feed(copied, "things 2;person weight 5;person weight 3;");
        EDGE.due("hall", copied.hall(41), 0);
        EDGE.due("named in the one ahead", copied.heads(0), 0);
        EDGE.says(23, "NoSuchElementException: no such THING");
        noSuch("heads", 3, StrikeHall::heads);
    }

    private static void head() {
        EDGE.says(24, "the THING of most HEADS, of like ones the least");
        EDGE.due("none has any", EDGE.told("things 9;" + EIGHT).head(0), 0);
        EDGE.due("no PEOPLE", new StrikeHall().head(0), 0);
        EDGE.due("like ones", EDGE.told("things 4;person weight 2 likes 3;person weight 1 likes 2;person weight 1 likes 2 over 3;").head(0), 2);
        for (int thing = 0; thing < 9; thing++) {
            EDGE.due(thing + " of nine", EDGE.told("things 9;person weight 1 likes 0;person weight 2 likes " + thing + ";").head(0), thing);
        }
        EDGE.says(24, "1: by how much its greatest PLACE is above that of THE LEAST");
        EDGE.due("not at all", EDGE.told("things 3;" + RISING).head(1), 0);
        EDGE.due("no PEOPLE", new StrikeHall().head(1), 0);
        EDGE.due("2 above 1", EDGE.told("things 3;person weight 9 likes 0 over 1 over 2;person weight 1 likes 2 over 1 over 0;law told 0;").head(1), 1);
        // THE CORE is 2 alone, at 1's last place; THE HEAD 0 is only 1 behind for all.
        EDGE.due("below it", EDGE.told("things 3;person weight 33 likes 2 over 0 and 1;person weight 91 likes 0 and 1 over 2;"
            + "person weight 43 likes 2 over 0 and 1;law told 0 6 1 8;").head(1), -1);
        EDGE.says(24, "NoSuchElementException: what is not 0 (THE HEAD), 1 (that)");
        noSuch("head", 2, StrikeHall::head);
    }

    private static void copies() {
        EDGE.says(25, "(the copy's bit is m)");
        for (int m = 2; m <= 8; m++) {
            EDGE.due("all of " + m, EDGE.told("things " + m + ";").copy(m - 1), (2 << m) - 1);
        }
        EDGE.says(25, "NONE: m is 9");
        EDGE.refused(AnswerEdgeTest::busyNine, "copy of nine", x -> x.copy(8), StrikeHall.NONE);
        EDGE.says(25, "in all ORDERS in the GROUP behind its own, alone");
        // One who may strike all but one keeps its dearest; a copy of it stands behind, ahead of the others.
        EDGE.due("of the dearest", EDGE.told("things 3;" + RISING).copy(0), 1);
        // 0 1 of one place, then the copy: at the copy two are kept, at 2 three.
        StrikeHall two = EDGE.told("things 3;person weight 1 likes 0 and 1;law told 2;");
        EDGE.due("behind its GROUP", two.copy(0), 3);
        EDGE.due("of the last", EDGE.told("things 3;" + RISING + "law told 1;").copy(2), 7);
        EDGE.says(25, "THE CORE WITH A COPY (THE HALL stays)");
        EDGE.refused(AnswerEdgeTest::busy, "copy of 2", x -> x.copy(2), 3);
        EDGE.says(25, "NoSuchElementException: no such THING");
        noSuch("copy", 3, StrikeHall::copy);
        EDGE.throwsNone(AnswerEdgeTest::busyNine, "copy of 9 of nine", x -> x.copy(9));
        EDGE.throwsNone(AnswerEdgeTest::busyNine, "copy of -1 of nine", x -> x.copy(-1));
    }

    private static void without() {
        EDGE.says(26, "all others keep WEIGHTS and ORDERS");
        String[] people = {"person weight 9 likes 2 over 1 over 0;", "person weight 4 likes 0 over 2;", "person weight 3 likes 1 and 0;"};
        // By steps of 4: 9 may strike 2, 4 may 1, 3 none; 7 of both others may 1.
        int[] want = {5, 4, 4};
        for (int gone = 0; gone < 3; gone++) {
            StringBuilder others = new StringBuilder("things 3;");
            for (int who = 0; who < 3; who++) {
                others.append(who == gone ? "" : people[who]);
            }
            for (String law : new String[] {"law parts;", "law steps 4;", "law told 1 2;"}) {
                EDGE.due(law + " without " + gone, EDGE.told("things 3;" + people[0] + people[1] + people[2] + law).without(gone),
                    EDGE.told(others + law).core());
            }
            EDGE.due("steps, without " + gone, EDGE.told("things 3;" + people[0] + people[1] + people[2] + "law steps 4;").without(gone), want[gone]);
        }
        EDGE.says(26, "WITHOUT the only one of PEOPLE");
        for (String law : new String[] {"law parts;", "law steps 1;", "law told 9;"}) {
            EDGE.due(law, EDGE.told("things 9;person weight 99 likes 8;turns 0 0;" + law).without(0), 511);
        }
        EDGE.says(26, "WITHOUT the last of eight");
        EDGE.due("seven may not", EDGE.told("things 2;" + "person weight 1 likes 0;".repeat(8) + "law told 0 0 0 0 0 0 0 1;").without(7), 3);
        EDGE.says(26, "THE CORE WITHOUT one (THE HALL stays)");
        EDGE.refused(AnswerEdgeTest::busy, "without 0", x -> x.without(0), 2);
        EDGE.refused(AnswerEdgeTest::busy, "without 1", x -> x.without(1), 1);
        EDGE.says(26, "NoSuchElementException: no such one of PEOPLE");
        noSuch("without", 2, StrikeHall::without);
        EDGE.throwsNone(StrikeHall::new, "without, no PEOPLE", x -> x.without(0));
    }

    private static void adding() {
        EDGE.says(27, "the copy's number");
        StrikeHall x = new StrikeHall();
        for (int m = 2; m < 9; m++) {
            EDGE.due("copy", x.add(m - 1), m);
            EDGE.due("things", x.count(0), m + 1);
        }
        EDGE.says(27, "NONE likewise (m is 9)");
        EDGE.due("of nine", x.add(0), StrikeHall.NONE);
        EDGE.due("things", x.count(0), 9);
        EDGE.refused(AnswerEdgeTest::busyNine, "add to nine", y -> y.add(0), StrikeHall.NONE);
        EDGE.says(27, "ROWS TOLD are gone, HOLDERS are empty");
        StrikeHall busy = busy();
        EDGE.due("add", busy.add(2), 3);
        EDGE.due("rows", busy.count(4), 0);
        for (int holder = 0; holder < 8; holder++) {
            EDGE.due("holder " + holder, busy.held(holder, 0), 1);
        }
        EDGE.due("the tape stays", busy.count(5), 20);
        EDGE.says(27, "THE HALL is WITH A COPY from now on");
        EDGE.same("the hall", State.hallOf(busy), State.hallOf(EDGE.told("things 4;person weight 1 likes 0 over 1 over 2 over 3;"
            + "person weight 1 likes 1 over 0 over 2 over 3;turns 0 1;")));
        StrikeHall tied = EDGE.told("things 4;person weight 1 likes 0 and 3 over 1;person weight 2 likes 2;person weight 3 likes 1 over 0 and 2 over 3;law told 2;turns 2 1;");
        EDGE.due("add", tied.add(0), 4);
        EDGE.same("the hall of ties", State.hallOf(tied), State.hallOf(EDGE.told("things 5;person weight 1 likes 0 and 3 over 4 over 1;"
            + "person weight 2 likes 2 over 0 and 1 and 3 over 4;person weight 3 likes 1 over 0 and 2 over 4 over 3;law told 2;turns 2 1;")));
        StrikeHall ahead = EDGE.told("things 3;person weight 1 likes 2 over 0 over 1;");
        EDGE.due("add", ahead.add(2), 3);
        EDGE.same("the hall of a copy ahead of all others", State.hallOf(ahead), State.hallOf(EDGE.told("things 4;person weight 1 likes 2 over 3 over 0 over 1;")));
        StrikeHall turns = EDGE.told("things 2;person weight 1;turns 0;");
        turns.add(0);
        EDGE.due("a row of as many strikes as TURNS", turns.row(1, 2), 0);
        EDGE.due("a row of one more", turns.row(2, 0), StrikeHall.NONE);
        EDGE.says(27, "NoSuchElementException: no such THING");
        noSuch("add", 3, StrikeHall::add);
        EDGE.throwsNone(AnswerEdgeTest::busyNine, "add of 9 to nine", y -> y.add(9));
        EDGE.throwsNone(AnswerEdgeTest::busyNine, "add of -1 to nine", y -> y.add(-1));
    }

    private static void ways() {
        EDGE.says(28, "how many WAYS");
        EDGE.due("no PEOPLE", new StrikeHall().ties(0), 1);
        EDGE.due("no ties", EDGE.told(TWO).ties(0), 1);
        EDGE.due("one tie", EDGE.told("things 2;person weight 1;").ties(0), 2);
        EDGE.due("those not named", EDGE.told("things 4;person weight 1 likes 0;").ties(0), 6);
        EDGE.due("two GROUPS of one", EDGE.told("things 5;person weight 1 likes 0 and 4 over 1;").ties(0), 4);
        EDGE.due("of two", EDGE.told("things 3;person weight 1;person weight 1 likes 2;").ties(0), 12);
        EDGE.says(28, "SPENT: there are more than 240");
        EDGE.due("240 of one", EDGE.told("things 7;person weight 1 likes 0 and 1;").ties(0), 240);
        EDGE.due("240 of two", EDGE.told("things 5;person weight 1;person weight 1 likes 3 and 4 over 0 over 1;").ties(0), 240);
        EDGE.due("216", EDGE.told("things 3;person weight 1;person weight 1;person weight 1;").ties(0), 216);
        String[] spent = {"things 2;" + EIGHT, "things 4;person weight 1 likes 0;person weight 1 likes 0;person weight 1 likes 0 and 1;person weight 1 likes 0 and 1 over 2;",
            "things 6;person weight 1;", "things 9;" + EIGHT};
        for (String text : spent) {
            for (int what = 0; what < 4; what++) {
                EDGE.due("ties " + what + " of " + text, EDGE.told(text).ties(what), StrikeHall.NONE);
            }
            EDGE.throwsNone(() -> EDGE.told(text), "ties 4 of " + text, x -> x.ties(4));
            EDGE.throwsNone(() -> EDGE.told(text), "ties -1 of " + text, x -> x.ties(-1));
        }
        EDGE.says(28, "NoSuchElementException: another what");
        noSuch("ties", 4, StrikeHall::ties);
    }

    private static void sureNeverOpen() {
        EDGE.says(28, "SURE: in all WAYS, NEVER: in none, OPEN: others");
        StrikeHall none = EDGE.told("things 9;");
        EDGE.due("no PEOPLE, sure", none.ties(1), 511);
        EDGE.due("no PEOPLE, never", none.ties(2), 0);
        EDGE.due("no PEOPLE, open", none.ties(3), 0);
        // One may strike all but its dearest, which is 0 or 1 as it will be told.
        StrikeHall edge = EDGE.told("things 7;person weight 1 likes 0 and 1;");
        EDGE.due("240, sure", edge.ties(1), 0);
        EDGE.due("240, never", edge.ties(2), 124);
        EDGE.due("240, open", edge.ties(3), 3);
        // Told 0 1 2 THE CORE is 0 and 1; told 0 2 1 it is 0 alone.
        StrikeHall all = EDGE.told("things 3;person weight 1 likes 0;person weight 1 likes 1 over 0 over 2;");
        EDGE.due("sure", all.ties(1), 1);
        EDGE.due("never", all.ties(2), 4);
        EDGE.due("open", all.ties(3), 2);
        EDGE.due("as the HALL is told, none is struck but 2", all.core(), 3);
        EDGE.says(28, "OPEN TIES of THE HALL that is there now");
        Tape.feed(all, "things 2;person weight 1;");
        EDGE.due("hall", all.hall(25), 0);
        EDGE.due("ways of the new one", all.ties(0), 2);
        EDGE.due("open of the new one", all.ties(3), 3);
        EDGE.due("add", all.add(0), 2);
        EDGE.due("ways with a copy", all.ties(0), 2);
        EDGE.due("never with a copy", all.ties(2), 4);
        for (int dearest = 0; dearest < 3; dearest++) {
            Tape.feed(all, "things 3;");
            EDGE.due("hall", all.hall(9), 0);
            EDGE.due("none never", all.ties(2), 0);
            Tape.feed(all, "things 3;person weight 1 likes " + dearest + ";");
            EDGE.due("hall", all.hall(33), 0);
            EDGE.due("all never, but " + dearest, all.ties(2), 7 & ~(1 << dearest));
            EDGE.due(dearest + " is sure", all.ties(1), 1 << dearest);
        }
    }

    private static void asking() {
        EDGE.says(29, "NONE: SPENT");
        EDGE.due("256", EDGE.told("things 2;" + EIGHT).ask(), StrikeHall.NONE);
        EDGE.due("240", EDGE.told("things 7;person weight 1 likes 0 and 1;").ask(), 0);
        EDGE.says(29, "NONE: nobody has such a GROUP");
        EDGE.due("no ties", EDGE.told(TWO).ask(), StrikeHall.NONE);
        EDGE.due("no PEOPLE", new StrikeHall().ask(), StrikeHall.NONE);
        EDGE.due("the last GROUP is of one", EDGE.told("things 2;person weight 1 likes 0;person weight 1 likes 1;").ask(), StrikeHall.NONE);
        EDGE.says(29, "of PEOPLE that have a GROUP of two or more");
        EDGE.due("1 alone has", EDGE.told("things 3;" + RISING + "person weight 1 likes 0;").ask(), 1);
        EDGE.due("the last of eight", EDGE.told("things 2;" + "person weight 1 likes 0;".repeat(7) + "person weight 1;").ask(), 7);
        EDGE.says(29, "that one of whom the most ENDS that may be left OPEN are least");
        EDGE.due("1 tells all", EDGE.told("things 2;person weight 1;person weight 2;").ask(), 1);
        // Each one strikes all but its dearest: 0's is known, so 0 is open till 1's is.
        EDGE.due("none against one", EDGE.told("things 3;person weight 3 likes 0;person weight 1;law told 2;").ask(), 1);
        EDGE.says(29, "(over all its orders), of like ones the least");
        // Of either, 2 may be left open at worst; of the one that names nothing, none at best.
        EDGE.due("not at best", EDGE.told("things 3;person weight 2 likes 0;person weight 2;").ask(), 0);
        EDGE.due("not in all", EDGE.told("things 3;person weight 3;person weight 3 likes 1;").ask(), 0);
        EDGE.due("like ones", EDGE.told("things 2;person weight 1;person weight 1;").ask(), 0);
        // 2 may be left open of either: of 0 when told 0 1 2, of 1 when told 2 1 0.
        EDGE.due("its first order, the other one's last", EDGE.told("things 3;person weight 52 likes 0;person weight 84 likes 2;").ask(), 0);
        EDGE.due("the other way round", EDGE.told("things 3;person weight 3 likes 2;person weight 3 likes 0;").ask(), 0);
        EDGE.due("orders of two GROUPS", EDGE.told("things 4;person weight 3 likes 3 and 2;person weight 3 likes 3 and 0 over 2 and 1;law steps 2;").ask(), 0);
        EDGE.says(29, "ENDS that may be left OPEN (not those that are SURE or NEVER)");
        EDGE.due("sure ones", EDGE.told("things 3;person weight 49 likes 1 and 0;person weight 46;").ask(), 1);
        EDGE.due("one never", EDGE.told("things 3;person weight 3 likes 1;person weight 2;").ask(), 0);
        EDGE.due("ones never", EDGE.told("things 3;person weight 1;person weight 2 likes 1;").ask(), 1);
        EDGE.says(29, "ASK of THE HALL that is there now");
        StrikeHall now = EDGE.told("things 3;" + RISING + "person weight 1 likes 0;");
        EDGE.due("ahead", now.ask(), 1);
        EDGE.due("add", now.add(0), 3);
        EDGE.due("with a copy", now.ask(), 1);
        Tape.feed(now, "things 3;person weight 1;");
        EDGE.due("hall", now.hall(25), 0);
        EDGE.due("a new one", now.ask(), 0);
    }
}
