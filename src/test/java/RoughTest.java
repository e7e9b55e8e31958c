import java.lang.management.ManagementFactory;
import java.lang.reflect.InvocationTargetException;
import java.lang.reflect.Method;
import java.lang.reflect.Modifier;
import java.util.ArrayList;
import java.util.Arrays;
import java.util.Comparator;
import java.util.List;
import java.util.Random;

/**
 * Calls with any arguments in any state: only the exceptions of the face come, thrown by the class itself; a call that
 * throws changes nothing; the same calls give the same answers; and no call makes anything that stays in the room.
 */
public final class RoughTest {
    private static final String[] TEXTS = {
        "things 9;person weight 1 likes 0 over 1 over 2 over 3 over 4 over 5 over 6 over 7 over 8;person weight 99 likes 8 over 7;"
            + "person weight 3;person weight 4 likes 4 and 5;law steps 3;turns 0 1 2 3 3 2 1 0;",
        "things 5;person weight 1 likes 0 and 1 over 2;person weight 2 likes 4 over 3 over 2 and 1;law told 1 2 3;turns 0 1 1;",
        "things 2;person weight 1;person weight 1;person weight 1;person weight 1;person weight 1;person weight 1;person weight 1;person weight 1;turns 7;",
        "things 4;person weight 7 likes 3;turns 0 0 0;", "things 8;", "things 3;person weight 1 likes 3;", "things 3;law steps 0;", "x"};

    private static int calls = 0;
    private static int wrong = 0;

    public static void main(String[] args) throws Exception {
        List<Method> face = new ArrayList<>();
        for (Method method : StrikeHall.class.getDeclaredMethods()) {
            if (Modifier.isPublic(method.getModifiers())) {
                face.add(method);
            }
        }
        face.sort(Comparator.comparing(Method::getName));
        Random random = new Random(34);
        for (int run = 0; run < 3000 && wrong < 20; run++) {
            roughRun(face, random.nextLong());
        }
        roomOfDearCalls();
        System.out.println("RoughTest: " + calls + " calls, " + wrong + " wrong");
        if (wrong != 0) {
            System.exit(1);
        }
    }

    private static void roughRun(List<Method> face, long seed) throws Exception {
        Random random = new Random(seed);
        StrikeHall x = new StrikeHall();
        StrikeHall twin = new StrikeHall();
        for (int call = 0; call < 512; call++) {
            if (random.nextInt(40) == 0) {
                String text = TEXTS[random.nextInt(TEXTS.length)];
                Tape.feed(x, text);
                Tape.feed(twin, text);
                int many = random.nextInt(5) == 0 ? random.nextInt(text.length() + 1) : text.length();
                due("hall of " + text, answer(x, StrikeHall.class.getMethod("hall", int.class), many),
                    answer(twin, StrikeHall.class.getMethod("hall", int.class), many));
                continue;
            }
            Method method = face.get(random.nextInt(face.size()));
            if (method.getName().equals("hall") && random.nextInt(4) != 0) {
                continue;
            }
            Object[] arguments = new Object[method.getParameterCount()];
            for (int i = 0; i < arguments.length; i++) {
                arguments[i] = method.getParameterTypes()[i] == long.class ? (Object) anyLong(random) : (Object) anyInt(random);
            }
            String before = stateOf(x);
            Object got = answer(x, method, arguments);
            String told = method.getName() + Arrays.toString(arguments);
            due(told, got, answer(twin, method, arguments));
            if (got instanceof Class) {
                due(told + " is of the face", got, method.getExceptionTypes().length == 1 ? method.getExceptionTypes()[0] : "nothing");
                due(told + " leaves all as it was", stateOf(x), before);
            }
        }
    }

    private static int anyInt(Random random) {
        switch (random.nextInt(5)) {
            case 0:
                return random.nextInt();
            case 1:
                return new int[] {Integer.MIN_VALUE, Integer.MAX_VALUE, -1, 8, 9, 12, 256, 600, 601}[random.nextInt(9)];
            default:
                return random.nextInt(5);
        }
    }

    private static long anyLong(Random random) {
        return random.nextInt(3) == 0 ? random.nextLong() : random.nextLong() & 0x3333333333333333L;
    }

    private static Object answer(StrikeHall x, Method method, Object... arguments) throws Exception {
        calls++;
        try {
            return method.invoke(x, arguments);
        } catch (InvocationTargetException e) {
            String thrower = e.getCause().getStackTrace()[0].getClassName();
            if (!thrower.startsWith("StrikeHall")) {
                due(method.getName() + " throws by itself", thrower, "StrikeHall");
            }
            return e.getCause().getClass();
        }
    }

    private static String stateOf(StrikeHall x) {
        StringBuilder state = new StringBuilder();
        for (int what = 0; what < 7; what++) {
            state.append(x.count(what)).append(' ');
        }
        for (int holder = 0; holder < 8; holder++) {
            state.append(x.held(holder, 0)).append(' ').append(x.held(holder, 1)).append(' ');
        }
        return state.append(x.fault()).append(' ').append(x.core()).append(' ').append(x.plain()).toString();
    }

    private static void due(String call, Object got, Object want) {
        if (!got.equals(want)) {
            wrong++;
            System.out.println(call + " answered " + got + ", due is " + want);
        }
    }

    private static void roomOfDearCalls() {
        com.sun.management.ThreadMXBean bean = (com.sun.management.ThreadMXBean) ManagementFactory.getThreadMXBean();
        long thread = Thread.currentThread().getId();
        StrikeHall x = new StrikeHall();
        dearCalls(x);
        long before = bean.getThreadAllocatedBytes(thread);
        int answers = 0;
        for (int i = 0; i < 20; i++) {
            answers += dearCalls(x);
        }
        long bytes = bean.getThreadAllocatedBytes(thread) - before;
        if (bytes > 4096) {
            wrong++;
            System.out.println("calls made " + bytes + " bytes of objects (" + answers + ")");
        }
    }

    private static int dearCalls(StrikeHall x) {
        int sum = x.feed(0x7468696e, 0x67732034, 0x3b706572, 0x736f6e20, 0x77656967);
        sum += x.feed(0x68742031, 0x3b747572, 0x6e732030, 0x20303b20, 0x20202020);
        sum += x.hall(37) + x.fault() + x.count(0) + x.core() + x.striker(0) + x.rows(0) + x.rows(1) + x.rows(2);
        sum += x.deep() + x.first() + x.back() + x.lie(0) + x.trades(0) + x.least() + x.head(1) + x.copy(0) + x.without(0);
        sum += x.ties(0) + x.ask() + x.row(2, 0x21) + x.judge(0, 2) + x.add(0) + x.ties(3) + x.some(0) + x.held(0, 0);
        return sum;
    }
}
