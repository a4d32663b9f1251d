import java.lang.reflect.Method;
import java.util.HashMap;
import java.util.Map;

/** One object of LampFeast under test: calls by name, each with the answer that is due. */
final class Run {
    static final int LOW = -1000000000;
    static final int BEYOND = LOW - 1;
    static final int NONE = LOW - 2;
    static final int STATE = LOW - 3;
    static final int FULL = LOW - 4;
    static final int KIND = LOW - 5;
    static final int MIN = Integer.MIN_VALUE;
    static final int MAX = Integer.MAX_VALUE;
    /** What an object answers after these is free. */
    static final int MOST_CALLS = 512;

    private static final Map<String, Method> METHODS = methods();
    private static int calls = 0;
    private static int wrong = 0;

    private final String name;
    private final LampFeast feast = new LampFeast();
    private final int[] findings = new int[6];
    private int ownCalls = 0;

    Run(String name) {
        this.name = name;
    }

    /** Each finding that is due must be told by found() at once. */
    Run due(int want, String method, int... args) {
        compare(want, method, args);
        if (want < LOW) {
            int k = LOW - want;
            findings[k]++;
            compare(findings[k], "found", k);
        }
        return this;
    }

    private void compare(int want, String method, int... args) {
        calls++;
        ownCalls++;
        if (ownCalls > MOST_CALLS) {
            throw new IllegalStateException(name + ": more calls than are promised");
        }
        int got = call(feast, method, args);
        if (got != want) {
            wrong++;
            System.out.println(name + ": " + asText(method, args) + " answered " + got + ", due is " + want);
        }
    }

    /** The call with each of these numbers as its argument number place (from 0 on) answers what is due. */
    Run dueForEach(int want, int place, int[] numbers, String method, int... args) {
        for (int number : numbers) {
            int[] changed = args.clone();
            changed[place] = number;
            due(want, method, changed);
        }
        return this;
    }

    /** The same method with one argument that rises from 0 on: what is due for each. */
    Run dueRow(String method, int... want) {
        for (int i = 0; i < want.length; i++) {
            due(want[i], method, i);
        }
        return this;
    }

    /** The same method, of one thing, with a second argument that rises from 0 on. */
    Run dueRowOf(int s, String method, int... want) {
        for (int i = 0; i < want.length; i++) {
            due(want[i], method, s, i);
        }
        return this;
    }

    /** The numbers just beside least .. greatest, and the farthest ones. */
    static int[] beside(int least, int greatest) {
        return new int[] {least - 1, greatest + 1, MIN, MAX};
    }

    /** As many lamps as there may be. */
    Run withLamps() {
        for (int crate = 0; crate < 12; crate++) {
            due(crate, "crate", 1000);
        }
        return this;
    }

    /** On a new object with lamps: this many small strings on the main. */
    Run withRow(int strings) {
        for (int s = 0; s < strings; s++) {
            due(s, "string", 0, 0, 1, 1, 1, 1);
        }
        return this;
    }

    /** On a new object with lamps: this many small strings, each on the one before. */
    Run withChain(int strings) {
        for (int s = 0; s < strings; s++) {
            due(s, "string", s == 0 ? 0 : 1, s == 0 ? 0 : s - 1, 1, 1, 1, 1);
        }
        return this;
    }

    static String asText(String method, int... args) {
        StringBuilder text = new StringBuilder(method).append('(');
        for (int i = 0; i < args.length; i++) {
            text.append(i == 0 ? "" : ", ").append(args[i]);
        }
        return text.append(')').toString();
    }

    private static Map<String, Method> methods() {
        Map<String, Method> all = new HashMap<>();
        for (Method method : LampFeast.class.getMethods()) {
            if (method.getDeclaringClass() == LampFeast.class) {
                all.put(method.getName(), method);
            }
        }
        return all;
    }

    /** A boolean argument is told as 0 or 1. */
    static int call(LampFeast feast, String method, int... args) {
        Method called = METHODS.get(method);
        if (called == null) {
            throw new IllegalStateException("no method " + method);
        }
        Object[] given = new Object[args.length];
        for (int i = 0; i < args.length; i++) {
            given[i] = method.equals("fault") && i == 1 ? (Object) (args[i] == 1) : args[i];
        }
        try {
            return (Integer) called.invoke(feast, given);
        } catch (ReflectiveOperationException e) {
            throw new IllegalStateException(asText(method, args), e);
        }
    }

    /** The last line of each test's main. */
    static void end() {
        System.out.println(calls + " calls, " + wrong + " not as due");
        if (wrong != 0) {
            System.exit(1);
        }
    }
}
