/** Boundary cases of promises 1 to 7 and of the words of part 1: the tape, texts and their faults, what a hall counts. */
public final class TextEdgeTest {
    private static final String EIGHT = "person weight 1;".repeat(8);
    private static final Edge EDGE = new Edge("TextEdgeTest");

    public static void main(String[] args) {
        newObject();
        feeding();
        fullTape();
        firstBytes();
        refusedHalls();
        stayingHall();
        newHallEmptiesAll();
        placesOfFaults();
        limitsOfNumbers();
        tokens();
        blanks();
        grammar();
        firstFault();
        misplaced();
        tooSoon();
        tooManyDigits();
        tooMuch();
        unknown();
        namedAlready();
        severalLaws();
        severalTurns();
        counts();
        places();
        turns();
        EDGE.end(1, 7);
    }

    /** A hall with rows, holders and twenty bytes on the tape: whatever changes can be seen. */
    private static StrikeHall busy() {
        StrikeHall x = new StrikeHall();
        String text = "things 3;person weight 2 likes 2;person weight 1 likes 1 over 0;law told 1 2;turns 1 0;";
        Tape.feed(x, text);
        x.hall(text.length());
        x.row(2, 0x02);
        x.hold(0, 0, 2);
        x.hold(7, 1, 0);
        Tape.feed(x, "things 5;law told 4;");
        return x;
    }

    private static StrikeHall emptyTape() {
        StrikeHall x = busy();
        x.hall(0);
        return x;
    }

    /** In the marked text the sign | stands where the fault is; what was there ahead stays, and the tape is empty. */
    private static void fault(int kind, String marked) {
        int at = marked.indexOf('|');
        String text = marked.substring(0, at) + marked.substring(at + 1);
        StrikeHall x = emptyTape();
        Tape.feed(x, text, ';');
        EDGE.due("hall of " + marked, x.hall(text.length()), kind);
        EDGE.due("fault of " + marked, x.fault(), at);
        EDGE.due("the tape behind " + marked, x.count(5), 0);
        EDGE.same("the hall behind " + marked, State.hallOf(x), State.hallOf(emptyTape()));
    }

    private static void newObject() {
        EDGE.says(1, "Two THINGS, no PEOPLE, 'parts', no TURNS");
        StrikeHall x = new StrikeHall();
        int[] counts = {2, 0, 0, 0, 0, 0, 0};
        for (int what = 0; what < counts.length; what++) {
            EDGE.due("count " + what, x.count(what), counts[what]);
        }
        EDGE.due("fault", x.fault(), StrikeHall.NONE);
        EDGE.same("a new object", State.of(new StrikeHall()), State.of(EDGE.told("things 2;")));
        EDGE.says(1, "a new object, beside another one");
        StrikeHall other = busy();
        EDGE.due("the other one's tape", other.count(5), 20);
        EDGE.same("a new object", State.of(new StrikeHall()), State.of(x));
        EDGE.says(1, "An object is used for at most 512 calls");
        StrikeHall used = new StrikeHall();
        for (int call = 0; call + 8 <= 512; call += 8) {
            int things = 2 + call / 8 % 8;
            Tape.feed(used, "things " + things + ";person weight 1;");
            EDGE.due("hall", used.hall(25), 0);
            EDGE.due("things", used.count(0), things);
            EDGE.due("rows", used.rows(0), (1 << things) - 1);
            EDGE.due("row", used.row(0, 0), 0);
            EDGE.due("hold", used.hold(7, 0, things - 1), true);
            EDGE.due("held, call " + (call + 8), used.held(7, 0), 9 + things);
        }
        EDGE.says(1, "NONE = -1");
        EDGE.due("NONE", StrikeHall.NONE, -1);
    }

    private static void feeding() {
        EDGE.says(2, "Twenty bytes come behind the tape");
        StrikeHall x = new StrikeHall();
        EDGE.due("first", x.feed(0x7468696e, 0x67732033, 0x3b202020, 0x20202020, 0x20202020), 20);
        EDGE.due("second", x.feed(0x6c617720, 0x73746570, 0x73203b20, 0x20202020, 0x20202020), 40);
        EDGE.due("a third, of zeros", x.feed(0, 0, 0, 0, 0), 60);
        EDGE.due("bytes", x.count(5), 60);
        EDGE.due("'law steps ;' stands behind the first twenty", x.hall(40), 1);
        EDGE.due("place", x.fault(), 30);
        EDGE.says(2, "of each number the highest first");
        for (int at = 0; at < 20; at++) {
            int[] n = {0x20202020, 0x20202020, 0x20202020, 0x20202020, 0x20202020};
            n[at / 4] |= 0xff << (24 - 8 * (at % 4));
            StrikeHall y = new StrikeHall();
            y.feed(n[0], n[1], n[2], n[3], n[4]);
            EDGE.due("byte 255 at " + at, y.hall(20), 1);
            EDGE.due("its place", y.fault(), at);
        }
    }

    private static StrikeHall full() {
        StrikeHall x = emptyTape();
        StringBuilder text = new StringBuilder("things 4;");
        while (text.length() < 588) {
            text.append(' ');
        }
        Tape.feed(x, text.append("law steps 7;").toString());
        return x;
    }

    private static void fullTape() {
        EDGE.says(2, "NONE, and none come, if it would have more than 600");
        EDGE.due("a full tape", full().count(5), 600);
        EDGE.refused(TextEdgeTest::full, "feed of zeros", x -> x.feed(0, 0, 0, 0, 0), StrikeHall.NONE);
        EDGE.refused(TextEdgeTest::full, "feed, twice", x -> x.feed(-1, -1, -1, -1, -1) + x.feed(1, 2, 3, 4, 5), -2);
        StrikeHall x = new StrikeHall();
        for (int i = 1; i <= 30; i++) {
            EDGE.due("feed " + i, x.feed(0, 0, 0, 0, 0), 20 * i);
        }
        EDGE.due("feed 31", x.feed(0, 0, 0, 0, 0), StrikeHall.NONE);
        EDGE.due("count", x.count(5), 600);
        EDGE.says(2, "how many it has, when it was emptied");
        x.hall(0);
        EDGE.due("feed", x.feed(0, 0, 0, 0, 0), 20);
    }

    private static void firstBytes() {
        EDGE.says(3, "The tape's first n bytes");
        StrikeHall x = busy();
        EDGE.due("fewer than there are", x.hall(9), 0);
        EDGE.due("things", x.count(0), 5);
        EDGE.due("no law of the bytes behind", x.count(3), 0);
        StrikeHall all = busy();
        EDGE.due("as many as there are", all.hall(20), 0);
        EDGE.due("law", all.count(3), 2);
        EDGE.says(3, "(it is empty then)");
        EDGE.due("count", x.count(5), 0);
        EDGE.due("the rest is gone", x.feed(0x7468696e, 0x67732036, 0x3b202020, 0x20202020, 0x20202020), 20);
        EDGE.due("hall", x.hall(20), 0);
        EDGE.due("things of the new bytes", x.count(0), 6);
        StrikeHall none = busy();
        EDGE.due("no bytes of twenty", none.hall(0), 1);
        EDGE.due("count at a fault", none.count(5), 0);
        EDGE.says(3, "A TEXT of at most 600 bytes");
        StrikeHall whole = full();
        EDGE.due("600 bytes", whole.hall(600), 0);
        EDGE.due("the last ones count", whole.count(3), 1);
        StrikeHall cut = full();
        EDGE.due("599 bytes", cut.hall(599), 1);
        EDGE.due("place", cut.fault(), 599);
    }

    private static void refusedHalls() {
        EDGE.says(3, "IllegalArgumentException: the tape has not so many (nothing changes)");
        for (int n : new int[] {21, 22, 600, 601, Integer.MAX_VALUE}) {
            EDGE.refused(TextEdgeTest::busy, "hall " + n, x -> x.hall(n), IllegalArgumentException.class);
        }
        EDGE.refused(TextEdgeTest::full, "hall 601", x -> x.hall(601), IllegalArgumentException.class);
        EDGE.refused(StrikeHall::new, "hall 1 of an empty tape", x -> x.hall(1), IllegalArgumentException.class);
        EDGE.refused(TextEdgeTest::emptyTape, "hall 1 of an emptied tape", x -> x.hall(1), IllegalArgumentException.class);
        EDGE.says(3, "IllegalArgumentException: n below 0 (nothing changes)");
        for (int n : new int[] {-1, -20, Integer.MIN_VALUE}) {
            EDGE.refused(TextEdgeTest::busy, "hall " + n, x -> x.hall(n), IllegalArgumentException.class);
            EDGE.refused(StrikeHall::new, "hall " + n + " of an empty tape", x -> x.hall(n), IllegalArgumentException.class);
        }
        EDGE.says(3, "n is 0");
        StrikeHall x = new StrikeHall();
        EDGE.due("hall 0 of an empty tape", x.hall(0), 1);
        EDGE.due("place", x.fault(), 0);
    }

    private static void stayingHall() {
        EDGE.says(3, "or the FAULT (the one ahead stays)");
        String start = "things 9;person weight 7 likes 8;law steps 3;turns 0;";
        fault(1, start + "|x");
        fault(2, start + "law steps |0;");
        fault(3, start + "turns |1;");
        fault(4, start + "person weight 9 likes 0 over |0;");
    }

    private static void newHallEmptiesAll() {
        EDGE.says(3, "A new HALL empties all");
        StrikeHall x = busy();
        EDGE.due("rows ahead", x.count(4), 1);
        EDGE.due("hall", x.hall(20), 0);
        EDGE.due("rows", x.count(4), 0);
        for (int holder = 0; holder < 8; holder++) {
            EDGE.due("holder " + holder, x.held(holder, 0), 1);
        }
        EDGE.same("the hall", State.hallOf(x), State.hallOf(EDGE.told("things 5;law told 4;")));
        StrikeHall same = EDGE.told("things 2;");
        same.row(0, 0);
        same.hold(1, 1, 0);
        Tape.feed(same, "things 2;");
        EDGE.due("the same text once more", same.hall(9), 0);
        EDGE.due("rows of the same text", same.count(4), 0);
        EDGE.due("holder of the same text", same.held(1, 1), 1);
    }

    private static void placesOfFaults() {
        EDGE.says(4, "NONE without");
        EDGE.due("a new one", new StrikeHall().fault(), StrikeHall.NONE);
        StrikeHall x = emptyTape();
        EDGE.due("a fault ahead", x.fault(), 0);
        Tape.feed(x, "things 2;");
        EDGE.due("hall", x.hall(9), 0);
        EDGE.due("none behind it", x.fault(), StrikeHall.NONE);
        EDGE.says(4, "The place of the latest hall()'s FAULT");
        Tape.feed(x, "things 2; x");
        EDGE.due("hall", x.hall(11), 1);
        EDGE.due("place", x.fault(), 10);
        Tape.feed(x, "things 1;");
        EDGE.due("it is told by no feed", x.fault(), 10);
        x.add(0);
        EDGE.due("nor by add", x.fault(), 10);
        EDGE.due("hall", x.hall(9), 2);
        EDGE.due("the later one", x.fault(), 7);
        EDGE.says(4, "at a TOKEN's first byte");
        fault(2, "\n\n   things  \n |100;");
        fault(1, "  |thinks 3;");
        fault(3, "things 3;person weight 1 likes 0 over    |12;");
        EDGE.says(4, "the greatest place of a fault");
        StrikeHall full = new StrikeHall();
        for (int i = 0; i < 30; i++) {
            full.feed(0x20202020, 0x20202020, 0x20202020, 0x20202020, 0x20202020);
        }
        EDGE.due("600 blanks", full.hall(600), 1);
        EDGE.due("place", full.fault(), 600);
    }

    private static void limitsOfNumbers() {
        EDGE.says(3, "THINGS 0 to m - 1 (m 2 to 9)");
        for (int m = 2; m <= 9; m++) {
            StrikeHall x = EDGE.told("things " + m + ";person weight 1 likes " + (m - 1) + ";");
            EDGE.due("things", x.count(0), m);
            EDGE.due("the last one", x.heads(m - 1), 1);
        }
        fault(2, "things |0;");
        fault(2, "things |1;");
        fault(2, "things |10;");
        fault(2, "things |999;");
        EDGE.says(3, "PEOPLE 0 to n - 1 (n 0 to 8)");
        EDGE.due("none", EDGE.told("things 2;").count(1), 0);
        EDGE.due("eight", EDGE.told("things 2;" + EIGHT).count(1), 8);
        EDGE.due("turn of the last one", EDGE.told("things 2;" + EIGHT + "turns 7;").turn(0), 7);
        EDGE.says(3, "a WEIGHT (1 to 99)");
        EDGE.due("1", EDGE.told("things 2;person weight 1;").count(6), 1);
        EDGE.due("99", EDGE.told("things 2;person weight 99;").count(6), 99);
        EDGE.due("eight of 99", EDGE.told("things 2;" + "person weight 99;".repeat(8)).count(6), 792);
        fault(2, "things 2;person weight |0;");
        fault(2, "things 2;person weight |100;");
    }

    private static void tokens() {
        EDGE.says(3, "words (a .. z, the longest row)");
        fault(1, "|thing 2;");
        fault(1, "|thingss 2;");
        fault(1, "|thingsa 2;");
        fault(1, "|thingsz 2;");
        fault(1, "|xhings 2;");
        fault(1, "|zthings 2;");
        fault(1, "|Things 2;");
        fault(1, "|thingS 2;");
        fault(1, "|`things 2;");
        fault(1, "|{things 2;");
        fault(1, "things 2;|personweight 1;");
        fault(1, "things 2;person weight 1 |like 0;");
        fault(1, "things 3;person weight 1 likes 0 |andover 1;");
        EDGE.due("no blanks round numbers", EDGE.told("things3;person weight7likes2and1over0;").place(0, 0), 2);
        EDGE.says(3, "NUMBERS (1 to 3 digits)");
        EDGE.due("one digit", EDGE.told("things 5;").count(0), 5);
        EDGE.due("two", EDGE.told("things 05;").count(0), 5);
        EDGE.due("three", EDGE.told("things 005;").count(0), 5);
        fault(2, "things |0005;");
        fault(1, "things |/;");
        fault(1, "things |:;");
        fault(1, "things |-2;");
        EDGE.due("999", EDGE.told("things 2;law steps 999;").count(3), 1);
        EDGE.says(3, "the sign ;");
        fault(1, "things 2|:");
        fault(1, "things 2|<");
        fault(1, "things 2;|;");
    }

    private static void blanks() {
        EDGE.says(3, "blanks (32, 10) between them, which count for nothing");
        EDGE.due("all over", EDGE.told(" \n things\n\n2 \n;\n law  parts \n; ").count(0), 2);
        EDGE.due("none", EDGE.told("things2;law told1;").count(3), 2);
        EDGE.due("at the end", EDGE.told("things 3;" + " \n".repeat(100)).count(0), 3);
        for (int sign = 0; sign < 256; sign++) {
            StrikeHall x = new StrikeHall();
            Tape.feed(x, "things 2;" + (char) sign);
            boolean blank = sign == 32 || sign == 10;
            EDGE.due("byte " + sign, x.hall(10), blank ? 0 : 1);
            EDGE.due("fault of byte " + sign, x.fault(), blank ? StrikeHall.NONE : 9);
        }
        EDGE.says(3, "blanks between them, not within");
        fault(1, "|thin gs 2;");
        fault(1, "things 2 |0;");
        fault(1, "things 2;law |st eps 1;");
    }

    private static void grammar() {
        EDGE.says(3, "LINE* (none, or as many as there is room for)");
        EDGE.due("none", EDGE.told("things 2;").count(3), 0);
        EDGE.due("59", EDGE.told("things 2;" + "law parts;".repeat(58) + "law told 1;").count(3), 2);
        EDGE.due("82", EDGE.told("things2;" + "person weight 1;" + "turns0;".repeat(82)).count(2), 1);
        EDGE.says(3, "['likes' GROUP ('over' GROUP)*] perhaps");
        EDGE.due("without", EDGE.told("things 3;person weight 1;").place(0, 2), 0);
        EDGE.due("one GROUP", EDGE.told("things 3;person weight 1 likes 2;").place(0, 1), 1);
        EDGE.due("nine GROUPS", EDGE.told("things 9;person weight 1 likes 8 over 7 over 6 over 5 over 4 over 3 over 2 over 1 over 0;").place(0, 0), 8);
        fault(1, "things 3;person weight 1 likes|");
        fault(1, "things 3;person weight 1 likes |;");
        fault(1, "things 3;person weight 1 likes 0 over |;");
        fault(1, "things 3;person weight 1 |over 0;");
        EDGE.says(3, "GROUP: NUMBER ('and' NUMBER)*");
        EDGE.due("nine", EDGE.told("things 9;person weight 1 likes 8 and 7 and 6 and 5 and 4 and 3 and 2 and 1 and 0;").place(0, 0), 0);
        fault(1, "things 3;person weight 1 likes 0 and |;");
        fault(1, "things 3;person weight 1 likes |and 0;");
        fault(1, "things 3;person weight 1 likes 0 |1;");
        EDGE.says(3, "'told' NUMBER NUMBER*");
        EDGE.due("one", EDGE.told("things 3;person weight 1;law told 2;").may(1), 2);
        fault(1, "things 3;law told |;");
        EDGE.says(3, "'turns' NUMBER NUMBER*");
        EDGE.due("one", EDGE.told("things 3;person weight 1;turns 0;").count(2), 1);
        fault(1, "things 3;person weight 1;turns |;");
        EDGE.says(3, "'steps' NUMBER, 'parts' (no more, no less)");
        fault(1, "things 3;law steps |;");
        fault(1, "things 3;law steps 1 |1;");
        fault(1, "things 3;law parts |1;");
    }

    private static void firstFault() {
        EDGE.says(3, "FAULTS, the first along the text");
        fault(4, "things 3;person weight 1 likes 0 and |0 and 3;law steps 0;x");
        fault(3, "things 3;turns |0 0 0 !");
        fault(2, "things 3;law steps |0 x");
        fault(1, "things 3|! 0001");
        fault(2, "things |1 person weight 0;");
        fault(2, "things 2;" + EIGHT + "|person weight 0 likes 7;");
    }

    private static void misplaced() {
        EDGE.says(3, "1 a TOKEN that can't stand there");
        String[] texts = {"|;", "|3;", "|person weight 1;", "things |;", "things |things;", "things 3 |3;", "things 3 |person weight 1;",
            "things 3;|3;", "things 3;|things 3;", "things 3;|weight 1;", "things 3;|parts;", "things 3;person |1;", "things 3;person weight |;",
            "things 3;person weight |likes;", "things 3;person weight 1 |1;", "things 3;person weight 1 |and 1;",
            "things 3;person weight 1 likes 1 |likes 1;", "things 3;law |1;", "things 3;law |;", "things 3;law |law;",
            "things 3;law steps |parts;", "things 3;law told |told;", "things 3;law told 1 |over 1;",
            "things 3;person weight 1;turns 0 |and 0;", "things 3;person weight 1;turns |turns;"};
        for (String text : texts) {
            fault(1, text);
        }
        EDGE.says(3, "1 a TOKEN that is none");
        fault(1, "things 3;|!");
        fault(1, "things |\u00ff");
        fault(1, "things 3;law told 1 |\u0000");
        fault(1, "|.things 3;");
    }

    private static void tooSoon() {
        EDGE.says(4, "(the text's length where it ends too soon)");
        String[] texts = {"|", " |", " \n  |", "things|", "things  |", "things 3|", "things 3 \n|", "things 3;person|", "things 3;person weight|",
            "things 3;person weight 1|", "things 3;person weight 1 likes|", "things 3;person weight 1 likes 1|",
            "things 3;person weight 1 likes 1 and|", "things 3;person weight 1 likes 1 over|", "things 3;law|", "things 3;law parts|",
            "things 3;law steps|", "things 3;law steps 1|", "things 3;law told|", "things 3;law told 1   |",
            "things 3;person weight 1;turns|", "things 3;person weight 1;turns 0|"};
        for (String text : texts) {
            fault(1, text);
        }
    }

    private static void tooManyDigits() {
        EDGE.says(3, "2 a NUMBER of 4 digits or more");
        String[] texts = {"things |0003;", "things |4294967299;", "things 3;person weight |0001;", "things 3;person weight |18446744073709551617;",
            "things 3;person weight 1 likes |0000;", "things 3;person weight 1 likes 0 and |0001;",
            "things 3;person weight 1 likes 0 over |0000;", "things 3;law steps |0001;", "things 3;law steps |1000;",
            "things 3;law told |0001;", "things 3;law told 1 |4294967297;", "things 3;person weight 1;turns |0000;",
            "things 3;person weight 1;turns 0 |1000;"};
        for (String text : texts) {
            fault(2, text);
        }
        EDGE.says(3, "2 one that can (4 digits where no NUMBER can stand are fault 1)");
        fault(1, "things 3 |1000;");
        fault(1, "things 3;|1000;");
        fault(1, "things 3;law |1000;");
        fault(1, "things 3;law parts |1000;");
    }

    private static void tooMuch() {
        EDGE.says(3, "2 'person' of the 9th");
        fault(2, "things 2;" + EIGHT + "|person weight 1;");
        fault(2, "things 2;" + EIGHT + "law parts; |person");
        EDGE.says(3, "2 'steps' of 0");
        fault(2, "things 2;law steps |0;");
        fault(2, "things 2;law steps |000;");
        EDGE.due("of 1", EDGE.told("things 2;law steps 1;").count(3), 1);
        EDGE.says(3, "2 more than 8 NUMBERS of 'told'");
        EDGE.due("8", EDGE.told("things 9;" + EIGHT + "law told 1 1 1 1 1 1 1 5;").may(255), 5);
        fault(2, "things 3;law told 1 2 3 4 5 6 7 8 |1;");
        fault(2, "things 3;law told 1 2 3 4 5 6 7 8 |9 x");
        EDGE.says(3, "2 one of them above 9");
        EDGE.due("9", EDGE.told("things 9;person weight 1;law told 9;").may(1), 8);
        EDGE.due("0", EDGE.told("things 9;person weight 1;law told 0;").may(1), 0);
        fault(2, "things 9;law told |10;");
        fault(2, "things 9;law told 1 2 3 4 5 6 7 |999;");
        EDGE.says(3, "2 a turn that leaves no THING (the m-th NUMBER of 'turns')");
        for (int m = 2; m <= 9; m++) {
            String start = "things " + m + ";person weight 1;turns 0;turns" + " 0".repeat(m - 1);
            EDGE.due("turns of " + m, EDGE.told(start + ";").count(2), m - 1);
            fault(2, start + " |0;");
            fault(2, start + " |0 0");
        }
        EDGE.says(3, "2 the m-th NUMBER of 'turns', nobody's as it is");
        fault(2, "things 2;person weight 1;turns 0 |1;");
    }

    private static void unknown() {
        EDGE.says(3, "3 a THING that there isn't");
        for (int m = 2; m <= 9; m++) {
            String start = "things " + m + ";person weight 1 likes ";
            EDGE.due("the last of " + m, EDGE.told(start + (m - 1) + ";").place(0, m - 1), 0);
            fault(3, start + "|" + m + ";");
            fault(3, start + "0 and |" + m + ";");
            fault(3, start + "0 over |" + m + ";");
        }
        fault(3, "things 9;person weight 1 likes |999;");
        EDGE.says(3, "3 PEOPLE that weren't told ahead");
        fault(3, "things 3;turns |0;");
        fault(3, "things 3;turns |0;person weight 1;");
        fault(3, "things 3;person weight 1;turns |1;person weight 1;");
        fault(3, "things 3;person weight 1;turns 0 |1;");
        fault(3, "things 9;" + EIGHT + "turns 0 7 |8;");
        fault(3, "things 9;" + EIGHT + "turns |999;");
        EDGE.due("those that were", EDGE.told("things 3;person weight 1;turns 0;person weight 1;").turn(0), 0);
    }

    private static void namedAlready() {
        EDGE.says(3, "4 a THING that this ORDER named already");
        fault(4, "things 3;person weight 1 likes 0 and |0;");
        fault(4, "things 3;person weight 1 likes 0 over |0;");
        fault(4, "things 3;person weight 1 likes 0 over 1 and |000;");
        fault(4, "things 9;person weight 1 likes 0 over 1 over 2 over 3 over 4 over 5 over 6 over 7 over 8 over |8;");
        fault(4, "things 2;person weight 1 likes 0;person weight 1 likes 0 and 1 over |1;");
        EDGE.due("another ORDER may", EDGE.told("things 2;person weight 1 likes 0;person weight 1 likes 0;").heads(0), 2);
    }

    private static void severalLaws() {
        EDGE.says(3, "Of several 'law' the last one counts ('parts' without)");
        String start = "things 5;person weight 4;person weight 4;";
        EDGE.due("without", EDGE.told(start).count(3), 0);
        // 5 times 4 by 8, cut up, less 1.
        EDGE.due("without, of one", EDGE.told(start).may(1), 2);
        StrikeHall parts = EDGE.told(start + "law told 1;law steps 3;law parts;");
        EDGE.due("parts", parts.count(3), 0);
        EDGE.due("parts, of one", parts.may(1), 2);
        StrikeHall steps = EDGE.told(start + "law told 4;law steps 1;law steps 4;");
        EDGE.due("steps", steps.count(3), 1);
        EDGE.due("steps, of one", steps.may(1), 1);
        StrikeHall told = EDGE.told(start + "law told 1 2 3;law told 3;");
        EDGE.due("told", told.count(3), 2);
        EDGE.due("told, of both", told.may(3), 3);
        fault(2, "things 5;law steps |0;law parts;");
    }

    private static void severalTurns() {
        EDGE.says(3, "of several 'turns', too (none without)");
        EDGE.due("without", EDGE.told("things 4;person weight 1;").count(2), 0);
        StrikeHall x = EDGE.told("things 4;person weight 1;person weight 1;turns 0 0 0;turns 1;");
        EDGE.due("the last ones", x.count(2), 1);
        EDGE.due("whose", x.turn(0), 1);
        fault(2, "things 3;person weight 1;turns 0 0 |0;turns 0;");
    }

    private static void counts() {
        EDGE.says(5, "0 THINGS .. 6 all WEIGHT");
        int[] counts = {3, 2, 2, 2, 1, 20, 3};
        for (int what = 0; what < counts.length; what++) {
            EDGE.due("count " + what, busy().count(what), counts[what]);
        }
        EDGE.says(5, "3 the law (0 'parts', 1 'steps', 2 'told')");
        EDGE.due("parts", EDGE.told("things 2;law parts;").count(3), 0);
        EDGE.due("steps", EDGE.told("things 2;law steps 2;").count(3), 1);
        EDGE.due("told", EDGE.told("things 2;law told 2;").count(3), 2);
        EDGE.says(5, "NoSuchElementException: another what");
        EDGE.throwsNone(TextEdgeTest::busy, "count 7", x -> x.count(7));
        for (int what : Edge.FAR) {
            EDGE.throwsNone(TextEdgeTest::busy, "count " + what, x -> x.count(what));
        }
    }

    private static void places() {
        EDGE.says(6, "those that it doesn't name are its last GROUP");
        int[][] places = {{0, 0, 0, 0}, {1, 1, 0, 1}, {1, 3, 0, 2}, {1, 3, 0, 2}};
        String[] orders = {"", " likes 2", " likes 2 over 0 over 3", " likes 2 over 0 over 3 over 1"};
        for (int i = 0; i < orders.length; i++) {
            StrikeHall x = EDGE.told("things 4;person weight 1" + orders[i] + ";");
            for (int thing = 0; thing < 4; thing++) {
                EDGE.due("place of " + thing + " by" + orders[i], x.place(0, thing), places[i][thing]);
            }
        }
        EDGE.says(6, "how many THINGS are in GROUPS ahead of its own");
        StrikeHall x = EDGE.told("things 9;person weight 1 likes 8 and 0 over 4 over 1 and 2 and 3;");
        int[] nine = {0, 3, 3, 3, 2, 6, 6, 6, 0};
        for (int thing = 0; thing < 9; thing++) {
            EDGE.due("place of " + thing, x.place(0, thing), nine[thing]);
        }
        EDGE.says(6, "NoSuchElementException: no such one of PEOPLE");
        EDGE.throwsNone(TextEdgeTest::busy, "place of 2", y -> y.place(2, 0));
        EDGE.throwsNone(StrikeHall::new, "place without PEOPLE", y -> y.place(0, 0));
        EDGE.says(6, "NoSuchElementException: no such THING");
        EDGE.throwsNone(TextEdgeTest::busy, "place of thing 3", y -> y.place(0, 3));
        for (int far : Edge.FAR) {
            EDGE.throwsNone(TextEdgeTest::busy, "place of one " + far, y -> y.place(far, 0));
            EDGE.throwsNone(TextEdgeTest::busy, "place of thing " + far, y -> y.place(1, far));
        }
        StrikeHall last = EDGE.told("things 9;" + EIGHT);
        EDGE.due("the last of both", last.place(7, 8), 0);
    }

    private static void turns() {
        EDGE.says(7, "Whose the i-th TURN is");
        StrikeHall x = EDGE.told("things 9;" + EIGHT + "turns 7 6 5 4 3 2 1 0;");
        for (int i = 0; i < 8; i++) {
            EDGE.due("turn " + i, x.turn(i), 7 - i);
        }
        EDGE.says(7, "NoSuchElementException: there is none");
        EDGE.throwsNone(TextEdgeTest::busy, "turn 2", y -> y.turn(2));
        EDGE.throwsNone(StrikeHall::new, "turn 0 of none", y -> y.turn(0));
        EDGE.throwsNone(() -> EDGE.told("things 9;" + EIGHT + "turns 7 6 5 4 3 2 1 0;"), "turn 8 of 8", y -> y.turn(8));
        for (int far : Edge.FAR) {
            EDGE.throwsNone(TextEdgeTest::busy, "turn " + far, y -> y.turn(far));
        }
    }
}
