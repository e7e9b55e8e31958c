import java.util.NoSuchElementException;
import java.util.TreeSet;

/** Checks of boundary cases, each under the promise and the document's words that it holds to. */
final class Edge {
    interface Maker {
        StrikeHall make();
    }

    interface Call {
        Object answer(StrikeHall x);
    }

    // Numbers that are below or above whatever the document counts from 0 on.
    static final int[] FAR = {Integer.MIN_VALUE, -1, 600, Integer.MAX_VALUE};

    private final String name;
    private final TreeSet<Integer> promises = new TreeSet<>();
    private String words = "";
    private int sentences = 0;
    private int checks = 0;
    private int wrong = 0;

    Edge(String name) {
        this.name = name;
    }

    /** The checks from here on belong to this sentence. */
    void says(int promise, String sentence) {
        promises.add(promise);
        sentences++;
        words = "promise " + promise + ", '" + sentence + "': ";
    }

    void due(String call, Object got, Object want) {
        checks++;
        if (!got.equals(want)) {
            wrong++;
            System.out.println(words + call + " answered " + got + ", due is " + want);
        }
    }

    StrikeHall told(String text) {
        StrikeHall x = new StrikeHall();
        Tape.feed(x, text, ';');
        due("hall of " + text, x.hall(text.length()), 0);
        due("fault of " + text, x.fault(), StrikeHall.NONE);
        return x;
    }

    /** The call gives this answer, and the object is as its twin that was not called. */
    void refused(Maker maker, String call, Call tried, Object want) {
        StrikeHall x = maker.make();
        due(call, answer(x, tried), want);
        same("all that is behind " + call, State.of(x), State.of(maker.make()));
    }

    void throwsNone(Maker maker, String call, Call tried) {
        refused(maker, call, tried, NoSuchElementException.class);
    }

    void same(String what, String got, String want) {
        checks++;
        if (!got.equals(want)) {
            wrong++;
            System.out.println(words + what + " is another one:");
            String[] gots = got.split("\n");
            String[] wants = want.split("\n");
            for (int i = 0; i < Math.min(gots.length, wants.length); i++) {
                if (!gots[i].equals(wants[i])) {
                    System.out.println("  " + gots[i] + ", due is " + wants[i]);
                    return;
                }
            }
        }
    }

    private static Object answer(StrikeHall x, Call tried) {
        try {
            return tried.answer(x);
        } catch (RuntimeException e) {
            return e.getClass();
        }
    }

    /** Each of these promises has to be named by some sentence. */
    void end(int firstPromise, int lastPromise) {
        for (int promise = firstPromise; promise <= lastPromise; promise++) {
            words = "";
            due("promise " + promise + " is named", promises.contains(promise), true);
        }
        System.out.println(name + ": " + sentences + " sentences, " + checks + " checks, " + wrong + " wrong");
        if (wrong != 0) {
            System.exit(1);
        }
    }
}
