import java.util.NoSuchElementException;

/** Each promise of the document, with answers worked out by hand. */
public final class PromiseTest {
    private interface Call {
        Object answer();
    }

    // Two who have one worst thing in common: whoever strikes last has its way.
    private static final String TWO = "things 3;person weight 1 likes 0 over 1 over 2;person weight 1 likes 1 over 0 over 2;turns 0 1;";
    // Three who go round in a ring.
    private static final String RING = "things 3;person weight 1 likes 0 over 1 over 2;person weight 1 likes 1 over 2 over 0;"
        + "person weight 1 likes 2 over 0 over 1;law parts;turns 0 1;";
    private static final String TOLD = "things 4;person weight 2 likes 0;person weight 1 likes 3 over 2;law told 2 3;turns 0 1 0;";
    private static final String EIGHT = "things 9;" + "person weight 1;".repeat(8) + "turns 0 1 2 3 4 5 6 7;";

    private static int checks = 0;
    private static int wrong = 0;

    public static void main(String[] args) {
        newObject();
        feeding();
        halls();
        counts();
        placesAndTurns();
        mays();
        keepsAndStrikes();
        strikers();
        cores();
        someRows();
        plainAndBack();
        byRows();
        deepEnds();
        lies();
        trades();
        grumbles();
        heads();
        copies();
        without();
        adding();
        ties();
        asking();
        rowsTold();
        judging();
        holders();
        leftBehind();
        System.out.println("PromiseTest: " + checks + " checks, " + wrong + " wrong");
        if (wrong != 0) {
            System.exit(1);
        }
    }

    private static void due(String call, Object got, Object want) {
        checks++;
        if (!got.equals(want)) {
            wrong++;
            System.out.println(call + " answered " + got + ", due is " + want);
        }
    }

    private static void none(String call, Call tried) {
        due(call, caught(tried), NoSuchElementException.class);
    }

    private static Object caught(Call tried) {
        try {
            return tried.answer();
        } catch (RuntimeException e) {
            return e.getClass();
        }
    }

    private static StrikeHall of(String text) {
        StrikeHall x = new StrikeHall();
        Tape.feed(x, text);
        due("hall of " + text, x.hall(text.length()), 0);
        due("fault of " + text, x.fault(), -1);
        return x;
    }

    private static void newObject() {
        StrikeHall x = new StrikeHall();
        int[] counts = {2, 0, 0, 0, 0, 0, 0};
        for (int what = 0; what < counts.length; what++) {
            due("1: count " + what, x.count(what), counts[what]);
        }
        due("1: core", x.core(), 3);
        due("1: plain", x.plain(), 3);
        due("1: back", x.back(), 3);
        due("1: deep", x.deep(), 3);
        due("1: fault", x.fault(), -1);
        due("1: held", x.held(7, 1), 1);
        due("1: NONE", StrikeHall.NONE, -1);
        due("1: may", x.may(-1), 0);
        due("1: keep", x.keep(-1, 1), 3);
        due("1: strikes", x.strikes(-1, 1), false);
    }

    private static void feeding() {
        StrikeHall x = new StrikeHall();
        for (int i = 1; i <= 30; i++) {
            due("2: feed " + i, x.feed(-1, 0, 1 << 31, 255, 32), 20 * i);
        }
        due("2: feed 31", x.feed(0, 0, 0, 0, 0), -1);
        due("2: count", x.count(5), 600);
        due("2: hall", x.hall(600), 1);
        due("2: fault", x.fault(), 0);
        due("2: empty", x.count(5), 0);
        due("2: feed again", x.feed(1, 2, 3, 4, 5), 20);

        StrikeHall y = new StrikeHall();
        // The bytes of each number are told from the highest on: a word cut by two numbers is still one word.
        due("2: bytes", y.feed(0x7468696e, 0x67733b20, 0x20202020, 0x20202020, 0x20202020), 20);
        due("2: fault 1", y.hall(20), 1);
        due("2: behind 'things'", y.fault(), 6);
        StringBuilder full = new StringBuilder(TWO);
        while (full.length() < 600) {
            full.append('\n');
        }
        due("2: 600 bytes", Tape.feed(y, full.toString()), 600);
        due("2: hall of 600 bytes", y.hall(600), 0);
        due("2: people of 600 bytes", y.count(1), 2);
    }

    private static void halls() {
        StrikeHall x = of(RING);
        Tape.feed(x, "things 5;things");
        due("3: n above", caught(() -> x.hall(21)), IllegalArgumentException.class);
        due("3: n below 0", caught(() -> x.hall(-1)), IllegalArgumentException.class);
        due("3: least n", caught(() -> x.hall(Integer.MIN_VALUE)), IllegalArgumentException.class);
        due("3: greatest n", caught(() -> x.hall(Integer.MAX_VALUE)), IllegalArgumentException.class);
        due("3: nothing changed", x.count(5), 20);
        due("4: nothing changed", x.fault(), -1);
        due("3: row ahead", x.row(1, 2), 0);
        x.hold(3, 1, 0);
        due("3: fault", x.hall(15), 1);
        due("4: fault", x.fault(), 9);
        due("3: tape is empty", x.count(5), 0);
        due("3: the one ahead stays", x.count(1), 3);
        due("3: its rows, too", x.count(4), 1);
        due("3: its holders, too", x.held(3, 1), 10);
        due("4: a throw leaves the fault", caught(() -> x.hall(1)), IllegalArgumentException.class);
        due("4: fault still", x.fault(), 9);
        Tape.feed(x, "things 5;things");
        due("3: first n bytes", x.hall(9), 0);
        due("4: none", x.fault(), -1);
        due("3: rest is gone", x.count(5), 0);
        due("3: new hall", x.count(0), 5);
        due("3: nobody", x.count(1), 0);
        due("3: no turns", x.count(2), 0);
        due("5: rows are gone", x.count(4), 0);
        due("5: holders are empty", x.held(3, 1), 1);
        due("3: nothing", x.hall(0), 1);
        due("4: at its end", x.fault(), 0);
    }

    private static void counts() {
        StrikeHall x = of(TOLD);
        int[] counts = {4, 2, 3, 2, 0, 0, 3};
        for (int what = 0; what < counts.length; what++) {
            due("5: count " + what, x.count(what), counts[what]);
        }
        none("5: count 7", () -> x.count(7));
        none("5: count -1", () -> x.count(-1));
        x.row(0, 0);
        x.feed(0, 0, 0, 0, 0);
        due("5: rows", x.count(4), 1);
        due("5: tape", x.count(5), 20);
        due("5: parts", of("things 2;law told 1;law parts;").count(3), 0);
        due("5: steps", of("things 2;law parts;law steps 999;").count(3), 1);
    }

    private static void placesAndTurns() {
        StrikeHall x = of("things 6;person weight 99 likes 4 and 2 over 0;person weight 1;"
            + "person weight 1 likes 0 and 1 and 2 and 3 and 4 and 5;turns 0;turns 2 0 1;");
        int[][] places = {{2, 3, 0, 3, 0, 3}, {0, 0, 0, 0, 0, 0}, {0, 0, 0, 0, 0, 0}};
        for (int who = 0; who < 3; who++) {
            for (int thing = 0; thing < 6; thing++) {
                due("6: place " + who + " " + thing, x.place(who, thing), places[who][thing]);
            }
        }
        none("6: no such one", () -> x.place(3, 0));
        none("6: below", () -> x.place(-1, 0));
        none("6: no such thing", () -> x.place(0, 6));
        none("6: thing below", () -> x.place(0, -1));
        due("7: turn 0", x.turn(0), 2);
        due("7: turn 2", x.turn(2), 1);
        none("7: turn 3", () -> x.turn(3));
        none("7: turn -1", () -> x.turn(-1));
    }

    private static void mays() {
        StrikeHall parts = of("things 5;person weight 1;person weight 2;person weight 4;");
        // 5/7, 10/7, 15/7, 20/7, 25/7, 30/7, 35/7, each cut up, less 1.
        int[] byParts = {0, 0, 1, 2, 2, 3, 4, 4};
        for (int set = 0; set < 8; set++) {
            due("8: parts " + set, parts.may(set), byParts[set]);
            due("8: parts and others " + set, parts.may(set | -8), byParts[set]);
        }
        StrikeHall steps = of("things 4;person weight 3;person weight 4;person weight 99;law steps 4;");
        int[] bySteps = {0, 0, 1, 1, 3, 3, 3, 3};
        for (int set = 0; set < 8; set++) {
            due("8: steps " + set, steps.may(set), bySteps[set]);
        }
        StrikeHall told = of("things 4;person weight 9;person weight 1;person weight 1;person weight 1;law told 2 0 9;");
        int[] byTold = {0, 2, 2, 0, 2, 0, 0, 3, 2, 0, 0, 3, 0, 3, 3, 3};
        for (int set = 0; set < 16; set++) {
            due("8: told " + set, told.may(set), byTold[set]);
        }
        due("8: nobody there", told.may(-16), 0);
    }

    private static void keepsAndStrikes() {
        StrikeHall x = of(TOLD);
        due("9: of 0 at 0", x.keep(1, 0), 0);
        due("9: of 0 at 2", x.keep(1, 2), 1);
        due("9: of 1 at 0", x.keep(2, 0), 12);
        due("9: of both at 1", x.keep(3, 1), 0);
        due("9: others count for nothing", x.keep(2 | 64, 1), 12);
        due("9: of nobody", x.keep(0, 1), 15);
        due("9: of others alone", x.keep(-4, 1), 15);
        none("9: no thing", () -> x.keep(0, 4));
        none("9: below", () -> x.keep(0, -1));
        due("10: two kept, two may be struck", x.strikes(2, 0), true);
        due("10: one kept is too few", x.strikes(1, 2), false);
        due("10: both keep none", x.strikes(3, 0), false);
        due("10: nobody", x.strikes(0, 0), false);
        due("10: others alone", x.strikes(-4, 0), false);
        due("10: with others", x.strikes(-2, 0), true);
        none("10: no thing", () -> x.strikes(1, 4));
        StrikeHall all = of("things 2;person weight 1 likes 1;law told 9;");
        due("10: at most all but one", all.strikes(1, 1), false);
        due("10: the other one", all.strikes(1, 0), true);
    }

    private static void strikers() {
        StrikeHall x = of(TWO);
        due("11: in the core", x.striker(0), 0);
        due("11: the first of like ones", x.striker(2), 1);
        none("11: no thing", () -> x.striker(3));
        none("11: below", () -> x.striker(-1));
        StrikeHall pairs = of("things 3;person weight 1 likes 1 over 0;person weight 1 likes 2 over 0;"
            + "person weight 1 likes 2 over 0;person weight 1 likes 1 over 0;law told 0 2;");
        due("11: 0 and 3 ahead of 1 and 2", pairs.striker(0), 9);
        StrikeHall fewer = of("things 3;person weight 1 likes 1 over 0;person weight 1 likes 1 over 0;"
            + "person weight 5 likes 2 over 0;law steps 2;");
        due("11: one ahead of two", fewer.striker(0), 4);
    }

    private static void cores() {
        due("12: two", of(TWO).core(), 3);
        due("12: ring", of(RING).core(), 7);
        due("12: told", of(TOLD).core(), 12);
        due("12: empty", of("things 2;person weight 1 likes 0;person weight 1 likes 1;law told 1;").core(), 0);
        due("12: no people", of("things 9;law told 9;").core(), 511);
        due("12: nobody likes one more", of(EIGHT).core(), 511);
    }

    private static void someRows() {
        StrikeHall x = of(TWO);
        due("13: 0, 1", x.some(8), 2);
        due("13: 1, 0", x.some(1), 1);
        due("13: more bits count for nothing", x.some(8 | -64), 2);
        none("13: twice", () -> x.some(0));
        none("13: no such one", () -> x.some(2));
        StrikeHall steps = of("things 3;person weight 8 likes 0 over 1 over 2;person weight 9 likes 2 over 1 over 0;law steps 1;");
        due("13: till one is left", steps.some(8), 1);
        due("13: the other first", steps.some(1), 4);
        due("13: nobody", new StrikeHall().some(-1), 3);
        // Of things that are alike to it the greatest number goes first, so eight strikes leave 0.
        due("13: eight", of("things 9;" + "person weight 1;".repeat(8) + "law told 1;").some(076543210), 1);
    }

    private static void plainAndBack() {
        due("14: two", of(TWO).plain(), 2);
        due("18: two", of(TWO).back(), 1);
        due("14: ring", of(RING).plain(), 2);
        due("14: told", of(TOLD).plain(), 1);
        due("14: like ones", of("things 4;person weight 1;turns 0 0;").plain(), 3);
        due("14: no turns", of("things 4;person weight 1;").plain(), 15);
        due("18: no turns", of("things 4;person weight 1;").back(), 15);
        // 0 strikes 3 and 2, then 1 strikes 1; from the last on 1 strikes 3, then 0 strikes 2 and 1.
        StrikeHall x = of("things 4;person weight 1 likes 0 over 1 over 2 over 3;person weight 1 likes 0 over 2 over 1 over 3;turns 0 0 1;");
        due("14: from the first", x.plain(), 1);
        StrikeHall y = of("things 4;person weight 1 likes 0 over 1 over 2 over 3;person weight 1 likes 2 over 1 over 0 over 3;turns 0 0 1;");
        due("14: 3, 2, 0", y.plain(), 2);
        due("18: 3, 2, 1 are struck by 1, 0, 0", y.back(), 1);
    }

    private static void byRows() {
        StrikeHall x = of(TWO);
        due("15: some", x.rows(0), 3);
        due("15: all", x.rows(1), 0);
        due("15: how many", x.rows(2), 2);
        none("15: 3", () -> x.rows(3));
        none("15: -1", () -> x.rows(-1));
        due("15: like turns", of(TOLD).rows(2), 3);
        due("15: told, some", of(TOLD).rows(0), 1);
        due("15: told, all", of(TOLD).rows(1), 1);
        due("15: none, one row", new StrikeHall().rows(2), 1);
        StrikeHall eight = of(EIGHT);
        due("15: eight", eight.rows(2), 40320);
        due("15: eight, some", eight.rows(0), 1);
        due("15: eight, all", eight.rows(1), 1);
        due("15: asked again", eight.rows(0), 1);
        due("15: behind a copy", eight.add(0), -1);
        due("15: behind a copy of two", x.add(2), 3);
        // 2 and its copy are both the worst: the copy and 2 go, 0 and 1 are left in either row.
        due("15: some behind a copy", x.rows(0), 3);
        due("15: all behind a copy", x.rows(1), 3);
    }

    private static void deepEnds() {
        StrikeHall x = of(TWO);
        due("16: two", x.deep(), 1);
        due("17: two", x.first(), 1);
        due("16: told", of(TOLD).deep(), 8);
        due("17: told", of(TOLD).first(), 0);
        due("16: ring", of(RING).deep(), 2);
        due("17: the least of like ones", of(RING).first(), 0);
        due("17: no turns", of("things 2;person weight 1;").first(), -1);
        due("16: no turns", of("things 2;person weight 1;").deep(), 3);
        // One turn of four: it strikes its worst, as the greatest place is least then.
        StrikeHall one = of("things 4;person weight 1 likes 3 over 1 over 2 over 0;turns 0;");
        due("16: one turn", one.deep(), 14);
        due("17: one turn", one.first(), 0);
        // 2 and 3 are both its worst: one of them is left, so the greatest place is 2 whatever it strikes. The sum tells.
        StrikeHall sum = of("things 4;person weight 1 likes 1 over 0;turns 0;");
        due("17: by the sum", sum.first(), 2);
        due("16: by the sum", sum.deep(), 11);
    }

    private static void lies() {
        StrikeHall x = of(TWO);
        due("19: 0 over 2 over 1", x.lie(0), 0x120);
        due("19: has the best", x.lie(1), -1);
        none("19: no such one", () -> x.lie(2));
        none("19: below", () -> x.lie(-1));
        x.add(2);
        due("19: four things", x.lie(1), -1);
        // The same two, with things more that both like less.
        StrikeHall five = of("things 5;person weight 1 likes 0 over 1 over 2 over 3 over 4;"
            + "person weight 1 likes 1 over 0 over 2 over 3 over 4;turns 0 0 0 1;");
        // With 0 2 1 3 4 it strikes 4, 3, 1, and 2 is left for the other one to strike.
        due("19: five things", five.lie(0), 0x43120);
        StrikeHall six = of("things 6;person weight 1 likes 0 over 1 over 2 over 3 over 4 over 5;"
            + "person weight 1 likes 1 over 0 over 2 over 3 over 4 over 5;turns 0 0 0 0 1;");
        due("19: above 5", six.lie(0), -1);
        none("19: above 5, no such one", () -> six.lie(2));
    }

    private static void trades() {
        StrikeHall x = of(TWO);
        due("20: pays one alone", x.trades(0), 0);
        due("20: none", x.trades(1), -1);
        none("20: 2", () -> x.trades(2));
        none("20: -1", () -> x.trades(-1));
        // 1, 0, 2 strike 0, 3, 1: 2 is left. 2, 0, 1 strike 1, 0, 2: 3 is left, which 1 and 2 rather have. No other trade pays.
        StrikeHall y = of("things 4;person weight 1 likes 2 over 1 over 3 over 0;person weight 1 likes 3 over 2 over 1 over 0;"
            + "person weight 1 likes 0 over 3 over 2 over 1;turns 1 0 2;");
        due("20: end", y.plain(), 4);
        due("20: one pays", y.trades(0), 1);
        due("20: 0 and 2", y.trades(1), 2);
        due("20: turns stay", y.turn(0), 1);
        due("20: end stays", y.plain(), 4);
        due("20: of one", of("things 3;person weight 1 likes 0;turns 0 0;").trades(0), 0);
    }

    private static void grumbles() {
        StrikeHall x = of(TOLD);
        due("21: greatest of 0", x.grumble(0, 0), 2);
        due("21: sum of 0", x.grumble(0, 1), 2);
        due("21: greatest of 3", x.grumble(3, 0), 1);
        due("21: sum of 3", x.grumble(3, 1), 2);
        due("21: sum of 1", x.grumble(1, 1), 4);
        none("21: what 2", () -> x.grumble(0, 2));
        none("21: what -1", () -> x.grumble(0, -1));
        none("21: no thing", () -> x.grumble(4, 0));
        due("21: no people", new StrikeHall().grumble(1, 0), 0);
        due("21: no people's sum", new StrikeHall().grumble(1, 1), 0);
        due("22: told", x.least(), 3);
        due("22: the least of like ones", of(RING).least(), 0);
        due("22: by the sum", of("things 2;person weight 1 likes 0;person weight 2 likes 1;law told 1;").least(), 1);
        due("22: of the core alone", of("things 3;person weight 9 likes 2 over 1;person weight 1 likes 0 over 1;law steps 4;").least(), 2);
        due("22: new", new StrikeHall().least(), 0);
    }

    private static void heads() {
        StrikeHall x = of("things 3;person weight 5;person weight 2 likes 1 and 2;person weight 3 likes 2 over 0;person weight 5 likes 1;");
        due("23: nobody names it", x.heads(0), 0);
        due("23: two do", x.heads(1), 7);
        due("23: two others do", x.heads(2), 5);
        none("23: no thing", () -> x.heads(3));
        none("23: below", () -> x.heads(-1));
        due("24: the head", x.head(0), 1);
        due("24: of like ones the least", of("things 3;person weight 1 likes 2;person weight 1 likes 1;").head(0), 1);
        due("24: none has heads", of("things 3;person weight 1;").head(0), 0);
        due("24: above the least", of(TOLD).head(1), 1);
        // Its greatest place is below that of the least, as it is not in the core.
        StrikeHall below = of("things 3;person weight 33 likes 2 over 0 and 1;person weight 91 likes 0 and 1 over 2;"
            + "person weight 43 likes 2 over 0 and 1;law told 0 6 1 8;");
        due("24: core", below.core(), 4);
        due("24: below the least", below.head(1), -1);
        none("24: what 2", () -> below.head(2));
        none("24: what -1", () -> below.head(-1));
        StrikeHall unnamed = of("things 2;person weight 4;");
        unnamed.add(0);
        due("23: a copy names nothing", unnamed.heads(0), 0);
        StrikeHall named = of("things 2;person weight 4 likes 0 and 1;");
        named.add(0);
        due("23: named, with a copy", named.heads(0), 4);
        due("23: the other one", named.heads(1), 4);
        due("23: the copy", named.heads(2), 0);
    }

    private static void copies() {
        StrikeHall x = of(TWO);
        due("25: of 0", x.copy(0), 3);
        due("25: of 2", x.copy(2), 3);
        due("25: things stay", x.count(0), 3);
        none("25: no thing", () -> x.copy(3));
        none("25: below", () -> x.copy(-1));
        due("25: ring", of(RING).copy(0), 1);
        due("25: the copy's bit", of("things 2;").copy(1), 7);
        due("25: nine", of(EIGHT).copy(8), -1);
        none("25: nine, no thing", () -> of(EIGHT).copy(9));
        due("25: eight", of("things 8;").copy(7), 511);
    }

    private static void without() {
        StrikeHall x = of(TWO);
        due("26: 0", x.without(0), 2);
        due("26: 1", x.without(1), 1);
        none("26: no such one", () -> x.without(2));
        none("26: below", () -> x.without(-1));
        due("26: people stay", x.count(1), 2);
        due("26: ring", of(RING).without(0), 4);
        due("26: the last one", of("things 3;person weight 7 likes 2;").without(0), 7);
        StrikeHall steps = of("things 3;person weight 5 likes 0 over 1 over 2;person weight 3 likes 2 over 1 over 0;law steps 4;");
        due("26: steps, 0", steps.without(0), 7);
        due("26: steps, 1", steps.without(1), 3);
    }

    private static void adding() {
        StrikeHall x = of(TOLD);
        due("27: row", x.row(1, 0), 0);
        x.hold(2, 0, 3);
        none("27: no thing", () -> x.add(4));
        none("27: below", () -> x.add(-1));
        due("27: rows stay", x.count(4), 1);
        due("27: number", x.add(0), 4);
        due("27: things", x.count(0), 5);
        due("27: turns", x.count(2), 3);
        due("27: rows", x.count(4), 0);
        due("27: holders", x.held(2, 0), 1);
        int[][] places = {{0, 2, 2, 2, 1}, {2, 2, 1, 0, 4}};
        for (int who = 0; who < 2; who++) {
            for (int thing = 0; thing < 5; thing++) {
                due("27: place " + who + " " + thing, x.place(who, thing), places[who][thing]);
            }
        }
        due("27: of a copy", x.add(4), 5);
        due("27: behind the copy", x.place(0, 5), 2);
        due("27: behind both", x.place(0, 1), 3);
        due("27: last", x.place(1, 5), 5);
        x.add(0);
        x.add(0);
        due("27: nine", x.add(0), 8);
        due("27: row of nine", x.row(2, 0x88), 0);
        x.hold(0, 1, 0);
        due("27: none", x.add(0), -1);
        due("27: nothing is gone", x.count(4), 1);
        due("27: holder keeps", x.held(0, 1), 10);
        none("27: nine, no thing", () -> x.add(9));
        due("27: fault", x.fault(), -1);
    }

    private static void ties() {
        // Told 0 1 2 the core is 0 and 1; told 0 2 1 it is 0 alone.
        StrikeHall x = of("things 3;person weight 1 likes 0;person weight 1 likes 1 over 0 over 2;");
        due("28: ways", x.ties(0), 2);
        due("28: sure", x.ties(1), 1);
        due("28: never", x.ties(2), 4);
        due("28: open", x.ties(3), 2);
        none("28: 4", () -> x.ties(4));
        none("28: -1", () -> x.ties(-1));
        due("28: the hall stays", x.place(0, 2), 1);
        StrikeHall edge = of("things 7;person weight 1 likes 0 and 1;");
        due("28: 240", edge.ties(0), 240);
        // One alone may strike all but one, so each of its first two is the core in some way, and no other one.
        due("28: 240, sure", edge.ties(1), 0);
        due("28: 240, never", edge.ties(2), 124);
        due("28: 240, open", edge.ties(3), 3);
        StrikeHall spent = of("things 2;" + "person weight 1;".repeat(8));
        for (int what = 0; what < 4; what++) {
            due("28: spent " + what, spent.ties(what), -1);
        }
        none("28: spent, 4", () -> spent.ties(4));
        due("28: 128", of("things 2;" + "person weight 1;".repeat(7)).ties(0), 128);
        due("28: far too many", of(EIGHT).ties(0), -1);
        due("28: told", of(TOLD).ties(0), 12);
        due("28: told, never", of(TOLD).ties(2), 3);
        x.add(1);
        due("28: ways behind a copy", x.ties(0), 2);
        due("28: asked anew behind a copy", x.ties(1) | x.ties(2) | x.ties(3), 15);
    }

    private static void asking() {
        due("29: the only one", of("things 3;person weight 1 likes 0;person weight 1 likes 1 over 0 over 2;").ask(), 0);
        due("29: not of those that tell all", of("things 3;person weight 1 likes 1 over 0 over 2;person weight 1 likes 0;").ask(), 1);
        due("29: nobody", of(TWO).ask(), -1);
        due("29: no people", new StrikeHall().ask(), -1);
        due("29: spent", of(EIGHT).ask(), -1);
        due("29: told", of(TOLD).ask(), 0);
        due("29: of like ones the least", of("things 2;person weight 1;person weight 1;").ask(), 0);
        // 1 alone may strike: the order of 0 changes nothing, that of 1 tells all.
        due("29: the one that counts", of("things 2;person weight 1;person weight 4;law steps 4;").ask(), 1);
    }

    private static void rowsTold() {
        StrikeHall x = of(TOLD);
        due("30: as many as turns", x.row(3, 0x213), 0);
        due("30: more than turns", x.row(4, 0), -1);
        due("30: below 0", x.row(-1, 0), -1);
        due("30: least", x.row(Integer.MIN_VALUE, 0), -1);
        due("30: no thing", x.row(2, 0x40), -1);
        due("30: more bits count for nothing", x.row(2, -1L << 8), 1);
        due("30: none", x.row(0, -1), 2);
        due("30: count", x.count(4), 3);
        for (int i = 3; i < 12; i++) {
            due("30: row " + i, x.row(1, i % 4), i);
        }
        due("30: the 13th", x.row(0, 0), -1);
        due("30: count", x.count(4), 12);
        StrikeHall eight = of(EIGHT);
        due("30: eight", eight.row(8, 0x12345678L), 0);
        due("30: eight, the greatest last", eight.row(8, 0x80000000L), 1);
        due("30: no thing 9", eight.row(8, 0x90000000L), -1);
        due("31: eight are plain", eight.judge(0, 2), -1);
        due("31: eight leave 0", eight.judge(0, 3), 1);
        due("31: the greatest is struck", eight.judge(1, 3), 254);
    }

    private static void judging() {
        StrikeHall x = of(TOLD);
        // 0 strikes 3, 1 strikes 1 (like 0, but greater), 0 strikes 2.
        x.row(3, 0x213);
        x.row(2, 0x33);
        x.row(3, 0x112);
        x.row(2, 0x03);
        x.row(0, 0);
        int[][] want = {{3, -1, -1, 1}, {2, 1, 1, 7}, {3, 2, 0, 9}, {2, -1, 1, 6}, {0, -1, -1, 15}};
        for (int row = 0; row < want.length; row++) {
            for (int what = 0; what < 4; what++) {
                due("31: judge " + row + " " + what, x.judge(row, what), want[row][what]);
            }
        }
        none("31: no row", () -> x.judge(5, 0));
        none("31: below", () -> x.judge(-1, 0));
        none("31: what 4", () -> x.judge(0, 4));
        none("31: what -1", () -> x.judge(0, -1));
    }

    private static void holders() {
        StrikeHall x = of(TOLD);
        x.row(1, 3);
        x.row(1, 2);
        due("32: end", x.hold(0, 0, 3), true);
        due("32: row", x.hold(7, 1, 1), true);
        due("33: end", x.held(0, 0), 13);
        due("33: end, as a row", x.held(0, 1), 2);
        due("33: row", x.held(7, 1), 11);
        due("33: row, as an end", x.held(7, 0), 2);
        due("33: nothing", x.held(1, 0), 1);
        none("33: kind 2", () -> x.held(0, 2));
        none("33: kind -1", () -> x.held(0, -1));
        none("33: holder 8", () -> x.held(8, 0));
        none("33: holder -1", () -> x.held(-1, 0));
        due("32: no holder", x.hold(8, 0, 3), false);
        due("32: no holder below", x.hold(-1, 1, 0), false);
        due("32: no holder of nothing", x.hold(8, 2, 0), false);
        none("32: kind 3", () -> x.hold(0, 3, 0));
        none("32: kind -1", () -> x.hold(0, -1, 0));
        none("32: no thing", () -> x.hold(0, 0, 4));
        none("32: thing below", () -> x.hold(0, 0, -1));
        none("32: no row", () -> x.hold(0, 1, 2));
        none("32: row below", () -> x.hold(0, 1, -1));
        none("32: ahead of no holder", () -> x.hold(8, 0, 4));
        none("32: kind ahead of no holder", () -> x.hold(8, 3, 0));
        due("33: a throw changes nothing", x.held(0, 0), 13);
        due("32: nothing, any number", x.hold(0, 2, Integer.MIN_VALUE), true);
        due("33: nothing now", x.held(0, 0), 1);
        due("32: another kind", x.hold(7, 0, 2), true);
        due("33: another kind", x.held(7, 0), 12);
    }

    private static void leftBehind() {
        StrikeHall x = of(TOLD);
        x.row(1, 3);
        x.hold(0, 0, 3);
        x.hold(1, 0, 2);
        x.hold(2, 1, 0);
        due("34: struck", x.left(0, 2), 10);
        due("34: left", x.left(1, 2), 11);
        due("34: no end, no row", x.left(2, 0), 2);
        due("34: nothing, no row", x.left(3, 0), 1);
        due("34: no end, nothing", x.left(2, 3), 1);
        due("34: nothing twice", x.left(3, 4), 1);
        due("34: end, nothing", x.left(0, 3), 1);
        due("34: nothing, row", x.left(3, 2), 1);
        due("34: end, an end", x.left(0, 1), 2);
        due("34: a row, row", x.left(2, 2), 2);
        due("34: the same end twice", x.left(0, 0), 2);
        none("34: holder 8", () -> x.left(8, 2));
        none("34: row's holder 8", () -> x.left(0, 8));
        none("34: holder -1", () -> x.left(-1, 2));
        none("34: row's holder -1", () -> x.left(0, -1));
    }
}
