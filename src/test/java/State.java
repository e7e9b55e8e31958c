/** All that calls can show of an object, as a text; it takes fewer than 400 calls. */
final class State {
    private State() {
    }

    /** The tape's bytes show only when they are read, so the object's hall may be another one behind this. */
    static String of(StrikeHall x) {
        StringBuilder told = new StringBuilder(hallOf(x));
        say(told, "fault", x.fault());
        int bytes = x.count(5);
        say(told, "tape", bytes);
        say(told, "tape read", x.hall(bytes));
        say(told, "tape's fault", x.fault());
        orders(told, x);
        return told.toString();
    }

    /** All but the tape and the place of a fault. */
    static String hallOf(StrikeHall x) {
        StringBuilder told = new StringBuilder();
        orders(told, x);
        ends(told, x);
        turns(told, x);
        for (int row = 0; row < x.count(4); row++) {
            for (int what = 0; what < 4; what++) {
                say(told, "judge " + row + " " + what, x.judge(row, what));
            }
        }
        for (int holder = 0; holder < 8; holder++) {
            say(told, "held " + holder, x.held(holder, 0));
            say(told, "held " + holder + " as a row", x.held(holder, 1));
        }
        return told.toString();
    }

    private static void say(StringBuilder told, String call, int answer) {
        told.append(call).append(": ").append(answer).append('\n');
    }

    private static void orders(StringBuilder told, StrikeHall x) {
        for (int what : new int[] {0, 1, 2, 3, 4, 6}) {
            say(told, "count " + what, x.count(what));
        }
        int people = x.count(1);
        for (int who = 0; who < people; who++) {
            say(told, "may " + who, x.may(1 << who));
            for (int thing = 0; thing < x.count(0); thing++) {
                say(told, "place " + who + " " + thing, x.place(who, thing));
            }
        }
        say(told, "may", x.may(-1));
    }

    private static void ends(StringBuilder told, StrikeHall x) {
        int things = x.count(0);
        for (int thing = 0; thing < things; thing++) {
            say(told, "striker " + thing, x.striker(thing));
            say(told, "grumble " + thing, x.grumble(thing, 1));
            say(told, "heads " + thing, x.heads(thing));
            say(told, "copy " + thing, x.copy(thing));
        }
        say(told, "core", x.core());
        say(told, "least", x.least());
        say(told, "head", x.head(0));
        int people = x.count(1);
        for (int who = 0; who < people; who++) {
            say(told, "without " + who, x.without(who));
        }
        for (int what = 0; what < 4; what++) {
            say(told, "ties " + what, x.ties(what));
        }
        say(told, "ask", x.ask());
    }

    private static void turns(StringBuilder told, StrikeHall x) {
        int turns = x.count(2);
        for (int i = 0; i < turns; i++) {
            say(told, "turn " + i, x.turn(i));
        }
        for (int what = 0; what < 3; what++) {
            say(told, "rows " + what, x.rows(what));
        }
        say(told, "plain", x.plain());
        say(told, "deep", x.deep());
        say(told, "first", x.first());
        say(told, "back", x.back());
        say(told, "trades", x.trades(1));
        int people = x.count(1);
        for (int who = 0; who < people; who++) {
            say(told, "lie " + who, x.lie(who));
        }
    }
}
