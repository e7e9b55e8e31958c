import java.util.NoSuchElementException;

/** Boundary cases of promises 30 to 34 and of the words of part 5: rows told, and holders. */
public final class RowEdgeTest {
    // 0 strikes 3, 1 strikes 1 (like 0, but greater), 0 strikes 2.
    private static final String TEXT = "things 4;person weight 2 likes 0;person weight 1 likes 3 over 2;law told 2 3;turns 0 1 0;";
    private static final String NINE = "things 9;" + "person weight 1;".repeat(8) + "turns 0 1 2 3 4 5 6 7;";
    private static final Edge EDGE = new Edge("RowEdgeTest");

    public static void main(String[] args) {
        manyStrikes();
        thingsOfRows();
        twelveRows();
        lawful();
        plain();
        leftBehindRows();
        refusedJudges();
        holdersAtFirst();
        holding();
        holdingNothing();
        refusedHolds();
        aheadOfNoHolder();
        heldOnes();
        refusedHeld();
        leftOnes();
        reasons();
        refusedLeft();
        EDGE.end(30, 34);
    }

    private static StrikeHall told() {
        return EDGE.told(TEXT);
    }

    /** Row 0 strikes 3, row 1 strikes 0 and 1; holders 0 and 5 keep ends 3 and 2, holders 2 and 7 the rows. */
    private static StrikeHall busy() {
        StrikeHall x = told();
        x.row(1, 0x3);
        x.row(2, 0x10);
        x.hold(0, 0, 3);
        x.hold(5, 0, 2);
        x.hold(2, 1, 0);
        x.hold(7, 1, 1);
        Tape.feed(x, "things 5;law told 4;");
        return x;
    }

    private static StrikeHall full() {
        StrikeHall x = told();
        for (int i = 0; i < 12; i++) {
            x.row(1, i % 4);
        }
        x.hold(7, 1, 11);
        return x;
    }

    private static void manyStrikes() {
        EDGE.says(30, "as many as there are TURNS, or fewer");
        StrikeHall x = told();
        for (int many = 0; many <= 3; many++) {
            EDGE.due("many " + many, x.row(many, 0), many);
            EDGE.due("strikes of " + many, x.judge(many, 0), many);
        }
        EDGE.due("eight", EDGE.told(NINE).row(8, 0x12345678L), 0);
        EDGE.says(30, "NONE: more strikes than TURNS");
        for (int many : new int[] {4, 5, 16, 17, Integer.MAX_VALUE}) {
            EDGE.refused(RowEdgeTest::busy, "row of " + many, y -> y.row(many, 0), StrikeHall.NONE);
        }
        EDGE.refused(() -> EDGE.told(NINE), "row of 9 of 8", y -> y.row(9, 0), StrikeHall.NONE);
        EDGE.refused(StrikeHall::new, "row of 1 without TURNS", y -> y.row(1, 0), StrikeHall.NONE);
        EDGE.due("row of 0 without TURNS", new StrikeHall().row(0, 0), 0);
        EDGE.says(30, "NONE: (or many below 0)");
        EDGE.refused(RowEdgeTest::busy, "row of -1", y -> y.row(-1, 0), StrikeHall.NONE);
        EDGE.refused(RowEdgeTest::busy, "row of the least", y -> y.row(Integer.MIN_VALUE, 0), StrikeHall.NONE);
        EDGE.refused(StrikeHall::new, "row of -1 without TURNS", y -> y.row(-1, 0), StrikeHall.NONE);
    }

    private static void thingsOfRows() {
        EDGE.says(30, "NONE: a THING that there isn't");
        for (int thing = 4; thing < 16; thing++) {
            long bits = thing;
            EDGE.refused(RowEdgeTest::busy, "row of " + thing, x -> x.row(1, bits), StrikeHall.NONE);
            EDGE.refused(RowEdgeTest::busy, "row of 0, 0, " + thing, x -> x.row(3, bits << 8), StrikeHall.NONE);
        }
        EDGE.due("m - 1 first", told().row(1, 3), 0);
        EDGE.due("m - 1 last", told().row(3, 0x300), 0);
        EDGE.due("8 as the eighth", EDGE.told(NINE).row(8, 0x80000000L), 0);
        EDGE.refused(() -> EDGE.told(NINE), "9 as the eighth", x -> x.row(8, 0x90000000L), StrikeHall.NONE);
        EDGE.says(30, "(4 bits each, the first lowest), of many strikes");
        EDGE.due("bits behind them", told().row(2, -1L << 8), 0);
        EDGE.due("none, and all bits", told().row(0, -1L), 0);
        EDGE.due("eight, and all bits behind", EDGE.told(NINE).row(8, 0xffffffff00000000L), 0);
        StrikeHall x = told();
        x.row(2, 0xf4f3f0f13L);
        EDGE.due("what such bits strike", x.judge(0, 3), 5);
    }

    private static void twelveRows() {
        EDGE.says(30, "from 0 on, at most 12");
        StrikeHall x = told();
        for (int i = 0; i < 12; i++) {
            EDGE.due("rows ahead", x.count(4), i);
            EDGE.due("row " + i, x.row(i % 4, 0x210), i);
        }
        EDGE.due("rows", x.count(4), 12);
        for (int i = 0; i < 12; i++) {
            EDGE.due("row " + i + " stays", x.judge(i, 0), i % 4);
        }
        EDGE.says(30, "NONE: there are 12");
        EDGE.refused(RowEdgeTest::full, "the 13th", y -> y.row(1, 2), StrikeHall.NONE);
        EDGE.refused(RowEdgeTest::full, "the 13th, of none", y -> y.row(0, 0), StrikeHall.NONE);
        EDGE.says(30, "its number, when a new HALL or a copy emptied them");
        StrikeHall copied = full();
        copied.add(0);
        EDGE.due("behind a copy", copied.row(1, 4), 0);
        StrikeHall anew = full();
        Tape.feed(anew, TEXT);
        EDGE.due("hall", anew.hall(TEXT.length()), 0);
        EDGE.due("behind a new HALL", anew.row(1, 3), 0);
        EDGE.says(30, "its number, when one was refused ahead");
        StrikeHall refused = told();
        refused.row(4, 0);
        refused.row(1, 9);
        EDGE.due("number", refused.row(1, 1), 0);
    }

    private static void lawful() {
        EDGE.says(31, "1 the first that is not LAWFUL (NONE)");
        long[] rows = {0x210, 0x000, 0x100, 0x010, 0x110, 0x333};
        int[] want = {-1, 1, 1, 2, 2, 1};
        StrikeHall x = told();
        for (int i = 0; i < rows.length; i++) {
            x.row(3, rows[i]);
            EDGE.due("row " + Long.toHexString(rows[i]), x.judge(i, 1), want[i]);
        }
        x.row(0, 0);
        EDGE.due("of no strikes", x.judge(6, 1), -1);
        x.row(1, 0x33);
        EDGE.due("of one", x.judge(7, 1), -1);
        StrikeHall nine = EDGE.told(NINE);
        nine.row(8, 0x12345678L);
        nine.row(8, 0x82345678L);
        EDGE.due("of eight", nine.judge(0, 1), -1);
        EDGE.due("the eighth", nine.judge(1, 1), 7);
        EDGE.says(31, "0 how many strikes");
        EDGE.due("none", x.judge(6, 0), 0);
        EDGE.due("one", x.judge(7, 0), 1);
        EDGE.due("as many as TURNS", x.judge(0, 0), 3);
        EDGE.due("eight", nine.judge(1, 0), 8);
    }

    private static void plain() {
        EDGE.says(31, "2 the first that is not PLAIN (NONE)");
        long[] rows = {0x213, 0x210, 0x203, 0x013};
        int[] want = {-1, 0, 1, 2};
        StrikeHall x = told();
        for (int i = 0; i < rows.length; i++) {
            x.row(3, rows[i]);
            EDGE.due("row " + Long.toHexString(rows[i]), x.judge(i, 2), want[i]);
        }
        x.row(0, 0);
        EDGE.due("of no strikes", x.judge(4, 2), -1);
        x.row(2, 0x13);
        EDGE.due("of fewer than TURNS", x.judge(5, 2), -1);
        StrikeHall nine = EDGE.told(NINE);
        nine.row(8, 0x12345678L);
        nine.row(8, 0x02345678L);
        EDGE.due("of eight", nine.judge(0, 2), -1);
        EDGE.due("the eighth", nine.judge(1, 2), 7);
        EDGE.says(31, "of one that isn't LAWFUL no later than that");
        long[] unlawful = {0x33, 0x313, 0x113, 0x000};
        int[] notLawful = {1, 2, 2, 1};
        int[] notPlain = {1, 2, 2, 0};
        StrikeHall y = told();
        for (int i = 0; i < unlawful.length; i++) {
            y.row(i == 0 ? 2 : 3, unlawful[i]);
            EDGE.due("not lawful, row " + Long.toHexString(unlawful[i]), y.judge(i, 1), notLawful[i]);
            EDGE.due("not plain, row " + Long.toHexString(unlawful[i]), y.judge(i, 2), notPlain[i]);
        }
    }

    private static void leftBehindRows() {
        EDGE.says(31, "3 what is left behind it (bits)");
        StrikeHall x = told();
        x.row(0, 0);
        x.row(1, 3);
        x.row(3, 0x213);
        x.row(3, 0x000);
        int[] want = {15, 7, 1, 14};
        for (int i = 0; i < want.length; i++) {
            EDGE.due("row " + i, x.judge(i, 3), want[i]);
        }
        StrikeHall nine = EDGE.told(NINE);
        nine.row(8, 0x76543210L);
        EDGE.due("of eight", nine.judge(0, 3), 256);
        StrikeHall none = new StrikeHall();
        none.row(0, 0);
        EDGE.due("of no TURNS", none.judge(0, 3), 3);
    }

    private static void refusedJudges() {
        EDGE.says(31, "NoSuchElementException: no such ROW");
        for (int what = 0; what < 4; what++) {
            int asked = what;
            EDGE.throwsNone(RowEdgeTest::busy, "judge 2, " + what, x -> x.judge(2, asked));
            EDGE.throwsNone(StrikeHall::new, "judge 0, " + what + " of none", x -> x.judge(0, asked));
            EDGE.throwsNone(RowEdgeTest::full, "judge 12, " + what, x -> x.judge(12, asked));
        }
        EDGE.due("the last of 12", full().judge(11, 0), 1);
        EDGE.says(31, "NoSuchElementException: another what");
        EDGE.throwsNone(RowEdgeTest::busy, "judge 1, 4", x -> x.judge(1, 4));
        for (int far : Edge.FAR) {
            EDGE.throwsNone(RowEdgeTest::busy, "judge " + far, x -> x.judge(far, 0));
            EDGE.throwsNone(RowEdgeTest::busy, "judge 0, " + far, x -> x.judge(0, far));
        }
        EDGE.says(31, "NoSuchElementException: no such ROW, when they are gone");
        StrikeHall gone = full();
        gone.add(1);
        EDGE.due("behind a copy", thrown(() -> gone.judge(0, 0)), NoSuchElementException.class);
    }

    private interface Asked {
        Object answer();
    }

    private static Object thrown(Asked asked) {
        try {
            return asked.answer();
        } catch (RuntimeException e) {
            return e.getClass();
        }
    }

    private static void holdersAtFirst() {
        EDGE.says(32, "HOLDERS 0 to 7 keep nothing (at first)");
        for (int holder = 0; holder < 8; holder++) {
            EDGE.due("end of " + holder, new StrikeHall().held(holder, 0), 1);
            EDGE.due("row of " + holder, new StrikeHall().held(holder, 1), 1);
        }
    }

    private static void holding() {
        EDGE.says(32, "A HOLDER keeps an END (kind 0: a THING), a ROW TOLD (1): true");
        StrikeHall x = full();
        for (int holder = 0; holder < 8; holder++) {
            EDGE.due("the last THING in " + holder, x.hold(holder, 0, 3), true);
            EDGE.due("held", x.held(holder, 0), 13);
            EDGE.due("the last ROW in " + holder, x.hold(holder, 1, 11), true);
            EDGE.due("held", x.held(holder, 1), 21);
            EDGE.due("the first THING in " + holder, x.hold(holder, 0, 0), true);
            EDGE.due("held", x.held(holder, 0), 10);
            EDGE.due("the first ROW in " + holder, x.hold(holder, 1, 0), true);
            EDGE.due("held", x.held(holder, 1), 10);
        }
        EDGE.says(32, "each HOLDER for itself");
        StrikeHall y = busy();
        EDGE.due("hold", y.hold(1, 0, 1), true);
        int[] ends = {13, 11, 2, 1, 1, 12, 1, 2};
        for (int holder = 0; holder < 8; holder++) {
            EDGE.due("end in " + holder, y.held(holder, 0), ends[holder]);
        }
    }

    private static void holdingNothing() {
        EDGE.says(32, "nothing (2; number any): true");
        for (int number : new int[] {0, -1, 4, 12, Integer.MIN_VALUE, Integer.MAX_VALUE}) {
            StrikeHall x = busy();
            EDGE.due("nothing for an END, " + number, x.hold(0, 2, number), true);
            EDGE.due("nothing for a ROW, " + number, x.hold(7, 2, number), true);
            EDGE.due("nothing for nothing, " + number, x.hold(1, 2, number), true);
            for (int holder : new int[] {0, 1, 7}) {
                EDGE.due("end in " + holder, x.held(holder, 0), 1);
                EDGE.due("row in " + holder, x.held(holder, 1), 1);
            }
            EDGE.due("others stay", x.held(5, 0), 12);
        }
    }

    private static void refusedHolds() {
        EDGE.says(32, "False: no such HOLDER");
        for (int holder : new int[] {Integer.MIN_VALUE, -1, 8, 9, Integer.MAX_VALUE}) {
            EDGE.refused(RowEdgeTest::busy, "an END in " + holder, x -> x.hold(holder, 0, 1), false);
            EDGE.refused(RowEdgeTest::busy, "a ROW in " + holder, x -> x.hold(holder, 1, 0), false);
            EDGE.refused(RowEdgeTest::busy, "nothing in " + holder, x -> x.hold(holder, 2, -1), false);
        }
        EDGE.says(32, "NoSuchElementException: no such kind");
        EDGE.throwsNone(RowEdgeTest::busy, "kind 3", x -> x.hold(0, 3, 0));
        for (int far : Edge.FAR) {
            EDGE.throwsNone(RowEdgeTest::busy, "kind " + far, x -> x.hold(0, far, 0));
        }
        EDGE.says(32, "NoSuchElementException: no such THING");
        EDGE.throwsNone(RowEdgeTest::busy, "THING 4", x -> x.hold(0, 0, 4));
        EDGE.throwsNone(StrikeHall::new, "THING 2 of two", x -> x.hold(7, 0, 2));
        for (int far : Edge.FAR) {
            EDGE.throwsNone(RowEdgeTest::busy, "THING " + far, x -> x.hold(0, 0, far));
        }
        EDGE.says(32, "NoSuchElementException: no such ROW");
        EDGE.throwsNone(RowEdgeTest::busy, "ROW 2", x -> x.hold(0, 1, 2));
        EDGE.throwsNone(RowEdgeTest::full, "ROW 12", x -> x.hold(0, 1, 12));
        EDGE.throwsNone(StrikeHall::new, "ROW 0 of none", x -> x.hold(0, 1, 0));
        for (int far : Edge.FAR) {
            EDGE.throwsNone(RowEdgeTest::busy, "ROW " + far, x -> x.hold(2, 1, far));
        }
    }

    private static void aheadOfNoHolder() {
        EDGE.says(32, "NoSuchElementException (ahead of that)");
        for (int holder : new int[] {-1, 8}) {
            EDGE.throwsNone(RowEdgeTest::busy, "kind 3 in " + holder, x -> x.hold(holder, 3, 0));
            EDGE.throwsNone(RowEdgeTest::busy, "kind -1 in " + holder, x -> x.hold(holder, -1, 0));
            EDGE.throwsNone(RowEdgeTest::busy, "THING 4 in " + holder, x -> x.hold(holder, 0, 4));
            EDGE.throwsNone(RowEdgeTest::busy, "THING -1 in " + holder, x -> x.hold(holder, 0, -1));
            EDGE.throwsNone(RowEdgeTest::busy, "ROW 2 in " + holder, x -> x.hold(holder, 1, 2));
            EDGE.throwsNone(RowEdgeTest::busy, "ROW -1 in " + holder, x -> x.hold(holder, 1, -1));
        }
    }

    private static void heldOnes() {
        EDGE.says(33, "10 and the THING (kind 0)");
        StrikeHall nine = EDGE.told(NINE);
        for (int thing = 0; thing < 9; thing++) {
            nine.hold(6, 0, thing);
            EDGE.due("THING " + thing, nine.held(6, 0), 10 + thing);
        }
        EDGE.says(33, "10 and the number of the ROW (1)");
        StrikeHall x = full();
        for (int row = 0; row < 12; row++) {
            x.hold(6, 1, row);
            EDGE.due("ROW " + row, x.held(6, 1), 10 + row);
        }
        EDGE.says(33, "or why not (1 it keeps nothing)");
        EDGE.due("as an END", busy().held(1, 0), 1);
        EDGE.due("as a ROW", busy().held(1, 1), 1);
        EDGE.says(33, "or why not (2 it keeps one of the other kind)");
        EDGE.due("an END as a ROW", busy().held(0, 1), 2);
        EDGE.due("a ROW as an END", busy().held(2, 0), 2);
    }

    private static void refusedHeld() {
        EDGE.says(33, "NoSuchElementException: no such kind");
        EDGE.throwsNone(RowEdgeTest::busy, "kind 2", x -> x.held(0, 2));
        EDGE.throwsNone(RowEdgeTest::busy, "kind 2 of one that keeps nothing", x -> x.held(1, 2));
        EDGE.throwsNone(RowEdgeTest::busy, "kind 3", x -> x.held(0, 3));
        EDGE.says(33, "NoSuchElementException: no such HOLDER");
        EDGE.throwsNone(RowEdgeTest::busy, "HOLDER 8", x -> x.held(8, 0));
        EDGE.throwsNone(RowEdgeTest::busy, "HOLDER 8, a ROW", x -> x.held(8, 1));
        EDGE.throwsNone(RowEdgeTest::busy, "neither", x -> x.held(8, 2));
        for (int far : Edge.FAR) {
            EDGE.throwsNone(RowEdgeTest::busy, "kind " + far, x -> x.held(0, far));
            EDGE.throwsNone(RowEdgeTest::busy, "HOLDER " + far, x -> x.held(far, 0));
            EDGE.throwsNone(RowEdgeTest::busy, "HOLDER " + far + ", a ROW", x -> x.held(far, 1));
        }
    }

    private static void leftOnes() {
        EDGE.says(34, "10 no, 11 yes");
        EDGE.due("3 behind the strike of 3", busy().left(0, 2), 10);
        EDGE.due("2 behind it", busy().left(5, 2), 11);
        EDGE.due("3 behind strikes of 0 and 1", busy().left(0, 7), 11);
        StrikeHall x = told();
        x.row(0, 0);
        x.row(3, 0x000);
        x.hold(0, 0, 0);
        x.hold(1, 1, 0);
        x.hold(6, 0, 1);
        x.hold(7, 1, 1);
        EDGE.due("0 behind no strike", x.left(0, 1), 11);
        EDGE.due("0 behind three of it", x.left(0, 7), 10);
        EDGE.due("1 behind them", x.left(6, 7), 11);
        StrikeHall nine = EDGE.told(NINE);
        nine.row(8, 0x87654321L);
        nine.hold(7, 1, 0);
        for (int thing = 0; thing < 9; thing++) {
            nine.hold(0, 0, thing);
            EDGE.due(thing + " behind eight strikes", nine.left(0, 7), thing == 0 ? 11 : 10);
        }
    }

    private static void reasons() {
        EDGE.says(34, "or why not (the least of both)");
        // By what the first one and the second one keep: an END, a ROW, nothing.
        int[] holders = {0, 2, 1};
        int[][] want = {{2, 10, 1}, {2, 2, 1}, {1, 1, 1}};
        for (int end = 0; end < 3; end++) {
            for (int row = 0; row < 3; row++) {
                EDGE.due("left " + holders[end] + " " + holders[row], busy().left(holders[end], holders[row]), want[end][row]);
            }
        }
        EDGE.due("two that keep nothing", busy().left(1, 3), 1);
        EDGE.due("two ENDS", busy().left(0, 5), 2);
        EDGE.due("two ROWS", busy().left(2, 7), 2);
        EDGE.says(34, "when a new HALL or a copy emptied them");
        StrikeHall x = busy();
        x.add(0);
        EDGE.due("behind a copy", x.left(0, 2), 1);
        StrikeHall y = busy();
        EDGE.due("hall", y.hall(20), 0);
        EDGE.due("behind a new HALL", y.left(0, 2), 1);
    }

    private static void refusedLeft() {
        EDGE.says(34, "NoSuchElementException: no such HOLDER");
        for (int holder : new int[] {Integer.MIN_VALUE, -1, 8, Integer.MAX_VALUE}) {
            EDGE.throwsNone(RowEdgeTest::busy, "an END in " + holder, x -> x.left(holder, 2));
            EDGE.throwsNone(RowEdgeTest::busy, "a ROW in " + holder, x -> x.left(0, holder));
            EDGE.throwsNone(RowEdgeTest::busy, "a ROW in " + holder + ", no END", x -> x.left(1, holder));
            EDGE.throwsNone(RowEdgeTest::busy, "an END in " + holder + ", no ROW", x -> x.left(holder, 1));
        }
    }
}
