import java.util.Random;

/** Texts and their faults; in a text that is told here the sign | stands where its fault is. */
public final class FaultTest {
    private static final String EIGHT = "person weight 1;".repeat(8);

    private static int checks = 0;
    private static int wrong = 0;

    public static void main(String[] args) {
        whole();
        misplaced();
        tooMuch();
        unknownAndTwice();
        firstOfSeveral();
        everyCut();
        changedTexts();
        System.out.println("FaultTest: " + checks + " checks, " + wrong + " wrong");
        if (wrong != 0) {
            System.exit(1);
        }
    }

    private static void due(String what, int got, int want) {
        checks++;
        if (got != want) {
            wrong++;
            System.out.println(what + " answered " + got + ", due is " + want);
        }
    }

    private static StrikeHall right(String text) {
        StrikeHall x = new StrikeHall();
        Tape.feed(x, text, ';');
        due("hall of " + text, x.hall(text.length()), 0);
        due("fault of " + text, x.fault(), -1);
        return x;
    }

    private static void fault(int kind, String marked) {
        int at = marked.indexOf('|');
        String text = marked.substring(0, at) + marked.substring(at + 1);
        StrikeHall x = new StrikeHall();
        Tape.feed(x, text, ';');
        due("hall of " + marked, x.hall(text.length()), kind);
        due("fault of " + marked, x.fault(), at);
        due("things behind " + marked, x.count(0), 2);
        due("people behind " + marked, x.count(1), 0);
    }

    private static void whole() {
        due("nine", right("things 9;").count(0), 9);
        due("two", right(" \n things\n\n2 ; \n").count(0), 2);
        due("zeros", right("things 003;").count(0), 3);
        due("no blanks", right("things3;person weight7likes2and 1over0;law told1 2;turns0 0;").count(6), 7);
        due("eight", right("things 2;" + EIGHT).count(1), 8);
        due("weights", right("things 2;person weight 99;person weight 001;").count(6), 100);
        due("steps", right("things 2;law steps 999;").count(3), 1);
        due("told", right("things 9;law told 9 0 9 0 9 0 9 0;").count(3), 2);
        due("turns", right("things 9;person weight 1;turns 0 0 0 0 0 0 0 0;").count(2), 8);
        due("the last law", right("things 2;law told 1;law steps 1;").count(3), 1);
        due("the last turns", right("things 4;person weight 1;turns 0 0 0;turns 0;").count(2), 1);
        StrikeHall told = right("things 5;person weight 1;person weight 1;law told 1 2 3;law told 3;");
        due("told anew", told.may(3), 3);
        StrikeHall late = right("things 3;law steps 2;person weight 4 likes 1;turns 0;person weight 1;");
        due("law ahead of people", late.may(1), 2);
        due("turns ahead of people", late.count(2), 1);
        due("all named", right("things 3;person weight 1 likes 2 and 0 and 1;").place(0, 1), 0);
        due("three groups", right("things 4;person weight 1 likes 2 and 0 over 1 over 3;").place(0, 3), 3);
    }

    private static void misplaced() {
        String[] texts = {"|", "   |", "\n|", "|x", "|thing 3;", "|thingss 3;", "|thingsz 3;", "|thingsa 3;", "|Things 3;", "|;", "|3;", "things|", "things  |",
            "things |;", "things |three;", "things 3|", "things 3 |4;", "things 3 |person", "things 3;|;", "things 3; |x;",
            "things 3;|things 3;", "things 3;|3;", "things 3;person|", "things 3;person |likes", "things 3;person |3;",
            "things 3;person weight|", "things 3;person weight |;", "things 3;person weight |likes 0;", "things 3;person weight 1|",
            "things 3;person weight 1 |2;", "things 3;person weight 1 |over 2;", "things 3;person weight 1 |and 2;",
            "things 3;person weight 1 likes|", "things 3;person weight 1 likes |;", "things 3;person weight 1 likes |and 1;",
            "things 3;person weight 1 likes |over 1;", "things 3;person weight 1 likes 0|", "things 3;person weight 1 likes 0 |1;",
            "things 3;person weight 1 likes 0 |likes 1;", "things 3;person weight 1 likes 0 and|",
            "things 3;person weight 1 likes 0 and |over 1;", "things 3;person weight 1 likes 0 over|",
            "things 3;person weight 1 likes 0 over |;", "things 3;person weight 1 likes 0 over 1 |law parts;",
            "things 3;law|", "things 3;law |;", "things 3;law |part;", "things 3;law |3;", "things 3;law parts|", "things 3;law parts |3;",
            "things 3;law steps|", "things 3;law steps |;", "things 3;law steps |parts;", "things 3;law steps 1 |2;",
            "things 3;law told|", "things 3;law told |;", "things 3;law told 1|", "things 3;law told 1 |told;",
            "things 3;person weight 1;turns|", "things 3;person weight 1;turns |;", "things 3;person weight 1;turns 0|",
            "things 3;person weight 1;turns 0 |and 0;", "things 3;person weight 1;turns 0   |", "things 3|.", "things 3;|\t", "things |-3;",
            "things 3 |1234;", "things 3;|1234;", "things 3;|\u00ff", "things 3;|\u0000", "things 3;|`", "things 3;|{", "things |/", "things |:",
            "things 3;|personweight 1;", "things 3;person weight 1 likes 0 |andover 1;"};
        for (String text : texts) {
            fault(1, text);
        }
    }

    private static void tooMuch() {
        String[] texts = {"things |1;", "things |0;", "things |10;", "things |999;", "things |1000;", "things |0003;",
            "things |99999999999999999999;", "things |4294967299;", "things |1", "things 3;person weight |0;", "things 3;person weight |100;",
            "things 3;person weight |0001;", "things 3;person weight |4294967297;", "things 2;" + EIGHT + "|person weight 1;",
            "things 2;" + EIGHT + "|person", "things 3;law steps |0;", "things 3;law steps |000;", "things 3;law steps |0001;",
            "things 3;law told |10;", "things 3;law told 1 |1000;", "things 3;law told 1 2 3 4 5 6 7 8 |9;",
            "things 3;law told 1 2 3 4 5 6 7 8 |10;", "things 3;person weight 1;turns 0 0 |0;", "things 2;person weight 1;turns 0 |0;",
            "things 9;person weight 1;turns 0 0 0 0 0 0 0 0 |0;", "things 3;person weight 1;turns 0 0 |1;",
            "things 3;person weight 1;turns |0000;", "things 3;person weight 1 likes |0000;", "things 3;person weight 1 likes 0 over |0000;"};
        for (String text : texts) {
            fault(2, text);
        }
    }

    private static void unknownAndTwice() {
        String[] unknown = {"things 3;person weight 1 likes |3;", "things 9;person weight 1 likes |9;", "things 3;person weight 1 likes |999;",
            "things 3;person weight 1 likes 0 and |3;", "things 3;person weight 1 likes 0 over |3;", "things 3;turns |0;",
            "things 3;turns |0;person weight 1;", "things 3;person weight 1;turns |1;person weight 1;", "things 3;person weight 1;turns 0 |8;",
            "things 3;person weight 1;turns |999;"};
        for (String text : unknown) {
            fault(3, text);
        }
        String[] twice = {"things 3;person weight 1 likes 0 and |0;", "things 3;person weight 1 likes 0 over |0;",
            "things 3;person weight 1 likes 0 over 1 and |00;", "things 3;person weight 1 likes 0 over 1 over 2 over |1;",
            "things 9;person weight 1 likes 0 and 1 and 2 and 3 and 4 and 5 and 6 and 7 and 8 and |8;",
            "things 3;person weight 1 likes 0;person weight 1 likes 0 and |0;"};
        for (String text : twice) {
            fault(4, text);
        }
    }

    private static void firstOfSeveral() {
        fault(4, "things 3;person weight 1 likes 0 and |0 and 7;law steps 0;x");
        fault(2, "things 3;law steps |0 x");
        fault(3, "things 3;turns |0 !");
        fault(1, "things 3|! 0001");
        fault(2, "things |1 !");
        fault(1, "things 3;law told 1 |! 10");
    }

    /** Cut anywhere, a text ends too soon, but behind its lines. */
    private static void everyCut() {
        String text = "things 4;person weight 12 likes 0 and 3 over 1;law told 1 2;law steps 3;law parts;turns 0 0;";
        for (int cut = 0; cut <= text.length(); cut++) {
            StrikeHall x = new StrikeHall();
            Tape.feed(x, text, ';');
            String part = text.substring(0, cut);
            boolean well = part.endsWith(";");
            boolean wordCut = part.matches(".*[a-z]$") && !part.matches(".*\\b(things|person|weight|likes|and|over|law|told|steps|parts|turns)$");
            int at = wordCut ? part.length() - part.replaceAll("^.*?([a-z]+)$", "$1").length() : cut;
            due("cut at " + cut, x.hall(cut), well ? 0 : 1);
            due("cut at " + cut + ", fault", x.fault(), well ? -1 : at);
        }
    }

    /** Signs changed at random (always the same ones): the answer is as a plain table of what may follow what tells. */
    private static void changedTexts() {
        Random random = new Random(1118);
        String base = "things 4;person weight 12 likes 0 and 3 over 1;person weight 3;law told 1 2;law steps 3;law parts;turns 0 1 0;";
        String[] pieces = {";", " ", "\n", "0", "1", "9", "3", "12", "1234", "things", "person", "weight 1", "likes", "and", "over", "law", "told",
            "steps", "parts", "turns", "x", "!", "likes 1 over 2", "person weight 1;", "law told 1 2 3 4 5 6 7 8", "turns 0 0"};
        for (int i = 0; i < 40000; i++) {
            StringBuilder text = new StringBuilder(base);
            int changes = 1 + random.nextInt(3);
            for (int c = 0; c < changes; c++) {
                int at = random.nextInt(text.length());
                int end = Math.min(text.length(), at + random.nextInt(4));
                text.replace(at, end, random.nextInt(3) == 0 ? "" : " ".repeat(random.nextInt(2)) + pieces[random.nextInt(pieces.length)] + " ".repeat(random.nextInt(2)));
            }
            StrikeHall x = new StrikeHall();
            Tape.feed(x, text.toString(), ';');
            int[] want = Table.faultOf(text.toString());
            due("hall of " + text, x.hall(text.length()), want[0]);
            due("fault of " + text, x.fault(), want[1]);
            if (wrong > 20) {
                return;
            }
        }
    }

    /** The grammar once more, as states with the tokens that may stand there. */
    private static final class Table {
        // Each row: state, what stands there (# a number, . the end), next state.
        private static final String[] ROWS = {"start things m", "m # m;", "m; ; line", "line . end", "line person weight", "line law law", "line turns turn",
            "weight weight w", "w # w;", "w; ; line", "w; likes thing", "thing # thing;", "thing; and thing", "thing; over thing", "thing; ; line",
            "law parts ;", "law steps step", "law told told", "step # ;", "told # told;", "told; # told;", "told; ; line", "turn # turn;",
            "turn; # turn;", "turn; ; line", "; ; line"};

        static int[] faultOf(String text) {
            java.util.regex.Matcher tokens = java.util.regex.Pattern.compile("[a-z]+|[0-9]+|;|[^ \\n]").matcher(text);
            String state = "start";
            int m = 2;
            int people = 0;
            int many = 0;
            java.util.Set<Integer> named = new java.util.HashSet<>();
            while (true) {
                boolean there = tokens.find();
                int at = there ? tokens.start() : text.length();
                String token = there ? tokens.group() : ".";
                boolean number = there && Character.isDigit(token.charAt(0));
                String next = follow(state, number ? "#" : token.equals(".") && there ? "none" : token);
                if (next == null) {
                    return new int[] {1, at};
                }
                if (next.equals("end")) {
                    return new int[] {0, -1};
                }
                if (number && token.length() > 3) {
                    return new int[] {2, at};
                }
                int value = number ? Integer.parseInt(token) : 0;
                int kind = 0;
                if (next.equals("weight")) {
                    people++;
                    kind = people > 8 ? 2 : 0;
                    named.clear();
                } else if (next.equals("told") || next.equals("turn")) {
                    many = 0;
                } else if (number) {
                    many++;
                    if (next.equals("m;")) {
                        m = value;
                        kind = m < 2 || m > 9 ? 2 : 0;
                    } else if (next.equals("w;")) {
                        kind = value < 1 || value > 99 ? 2 : 0;
                    } else if (next.equals("thing;")) {
                        kind = value >= m ? 3 : named.add(value) ? 0 : 4;
                    } else if (next.equals(";")) {
                        kind = value == 0 ? 2 : 0;
                    } else if (next.equals("told;")) {
                        kind = many > 8 || value > 9 ? 2 : 0;
                    } else if (next.equals("turn;")) {
                        kind = many >= m ? 2 : value >= people ? 3 : 0;
                    }
                }
                if (kind != 0) {
                    return new int[] {kind, at};
                }
                state = next;
            }
        }

        private static String follow(String state, String token) {
            for (String row : ROWS) {
                String[] parts = row.split(" ");
                if (parts[0].equals(state) && parts[1].equals(token)) {
                    return parts[2];
                }
            }
            return null;
        }
    }
}
