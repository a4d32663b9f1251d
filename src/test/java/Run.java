import java.lang.reflect.Method;

/** One object of LampFeast under test: calls by name, each with the answer that is due. */
final class Run {
    static final int LOW = -1000000000;
    static final int BEYOND = LOW - 1;
    static final int NONE = LOW - 2;
    static final int STATE = LOW - 3;
    static final int FULL = LOW - 4;
    static final int KIND = LOW - 5;

    private static int calls = 0;
    private static int wrong = 0;

    private final String name;
    private final LampFeast feast = new LampFeast();
    private final int[] findings = new int[6];

    Run(String name) {
        this.name = name;
    }

    /** Each finding that is due must be told by found() at once. */
    Run due(int want, String method, int... args) {
        compare(want, method, args);
        if (want < LOW) {
            int k = LOW - want;
            findings[k]++;
            compare(findings[k], "found", k);
        }
        return this;
    }

    private void compare(int want, String method, int... args) {
        calls++;
        int got = call(feast, method, args);
        if (got != want) {
            wrong++;
            System.out.println(name + ": " + asText(method, args) + " answered " + got + ", due is " + want);
        }
    }

    /** The call with each of these numbers as its argument number place (from 0 on) answers what is due. */
    Run dueForEach(int want, int place, int[] numbers, String method, int... args) {
        for (int number : numbers) {
            int[] changed = args.clone();
            changed[place] = number;
            due(want, method, changed);
        }
        return this;
    }

    static String asText(String method, int... args) {
        StringBuilder text = new StringBuilder(method).append('(');
        for (int i = 0; i < args.length; i++) {
            text.append(i == 0 ? "" : ", ").append(args[i]);
        }
        return text.append(')').toString();
    }

    /** A boolean argument is told as 0 or 1. */
    static int call(LampFeast feast, String method, int... args) {
        try {
            for (Method m : LampFeast.class.getMethods()) {
                if (m.getDeclaringClass() == LampFeast.class && m.getName().equals(method)) {
                    Object[] given = new Object[args.length];
                    for (int i = 0; i < args.length; i++) {
                        given[i] = m.getParameterTypes()[i] == boolean.class ? (Object) (args[i] == 1) : args[i];
                    }
                    return (Integer) m.invoke(feast, given);
                }
            }
        } catch (ReflectiveOperationException e) {
            throw new IllegalStateException(asText(method, args), e);
        }
        throw new IllegalStateException("no method " + method);
    }

    /** The last line of each test's main. */
    static void end() {
        System.out.println(calls + " calls, " + wrong + " not as due");
        if (wrong != 0) {
            System.exit(1);
        }
    }
}
