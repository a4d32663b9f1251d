import java.util.Random;

/** Runs of up to 512 calls, made by chance of a seed that stays, held against the model. All promises. */
public final class RandomRunsTest {
    private static final int[] ODD = {Integer.MIN_VALUE, -1000000000, -2, -1, 1 << 24, Integer.MAX_VALUE};

    private final Random random;
    private final LampFeast feast = new LampFeast();
    private final Model model = new Model();
    private final int mostStrings;
    private final int seed;
    /** Wide wires and weak lamps, so that the fewest fuses are found often. */
    private final boolean kindTown;
    private int strings = 0;

    private RandomRunsTest(int seed, int mostStrings) {
        random = new Random(seed);
        this.seed = seed;
        this.mostStrings = mostStrings;
        kindTown = seed % 3 != 0;
    }

    public static void main(String[] args) {
        boolean right = true;
        for (int seed = 1; seed <= 300; seed++) {
            int mostStrings = seed % 10 == 0 ? 11 : seed % 2 == 0 ? 6 : 8;
            right &= new RandomRunsTest(seed, mostStrings).run(300);
        }
        for (int seed = 1001; seed <= 1200; seed++) {
            right &= new RandomRunsTest(seed, 24).runWithoutSets();
        }
        System.out.println(right ? "all random runs are as due" : "random runs are not as due");
        if (!right) {
            System.exit(1);
        }
    }

    private boolean run(int calls) {
        for (int i = 0; i < calls; i++) {
            if (!isSame(pickMethod(SETS_TOO))) {
                return false;
            }
        }
        return true;
    }

    /** The model tries all sets, so that it would take too long with 24 strings. */
    private boolean runWithoutSets() {
        for (int i = 0; i < 400; i++) {
            if (!isSame(i < 40 && i % 10 != 0 ? "string" : pickMethod(NO_SETS))) {
                return false;
            }
        }
        return true;
    }

    private static final String[] NO_SETS = {"crate", "string", "string", "string", "fuse", "dead", "about", "as", "told",
        "told", "told", "most", "blow", "look", "look", "next", "fault", "crews", "open", "order", "order", "plan", "hung",
        "hung", "best", "front", "part", "share", "share", "lamp", "replace", "box", "tell", "count", "found"};
    private static final String[] SETS_TOO = {"crate", "string", "string", "fuse", "dead", "about", "as", "told", "told",
        "most", "blow", "look", "look", "next", "fault", "crews", "open", "order", "order", "plan", "hung", "hung", "best",
        "front", "part", "share", "share", "lamp", "replace", "box", "tell", "tell", "check", "count", "found", "fewest",
        "fewest", "fuses", "explain", "explain"};

    private String pickMethod(String[] methods) {
        return methods[random.nextInt(methods.length)];
    }

    private boolean isSame(String method) {
        if (method.equals("string") && strings >= mostStrings && mostStrings < 24) {
            return true;
        }
        int[] args = arguments(method);
        int want = model.call(method, args);
        int got = Run.call(feast, method, args);
        if (method.equals("string") && got >= 0) {
            strings++;
        }
        if (got != want) {
            System.out.println("seed " + seed + ": " + Run.asText(method, args) + " answered " + got + ", due is " + want);
        }
        return got == want;
    }

    private int[] arguments(String method) {
        int[] args = rightArguments(method);
        if (args.length > 0 && random.nextInt(25) == 0) {
            args[random.nextInt(args.length)] = method.equals("fault") ? 0 : ODD[random.nextInt(ODD.length)];
        }
        return args;
    }

    private int[] rightArguments(String method) {
        switch (method) {
            case "crate": return row(upTo(12) == 0 ? upTo(1001) : 40 + upTo(300));
            case "string": return stringArguments();
            case "fuse": return row(aString(), upTo(4) == 0 ? upTo(60001) : upTo(1500));
            case "dead": return row(aString(), upTo(1));
            case "about": return row(aString(), upTo(10));
            case "as": return row(aString(), upTo(3));
            case "told": case "hung": case "box": return row(aString(), upTo(8) == 0 ? upTo(4) : upTo(3));
            case "most": return row(upTo(3000));
            case "fewest": return row(upTo(9) == 0 ? 2 : upTo(1));
            case "explain": return row(upTo((1 << Math.min(strings, 11))));
            case "look": return row(aString(), upTo(20), upTo(1));
            case "next": return row(aString());
            case "fault": return row(aString(), upTo(1));
            case "crews": return row(1 + upTo(3), 1 + upTo(12));
            case "open": return row(upTo(8), upTo(1) == 0 ? 1 << upTo(6) : upTo(128));
            case "order": return row(aString(), aString());
            case "front": return row(upTo(8), upTo(1) == 0 ? upTo(9) : upTo(1001));
            case "part": return row(upTo(101));
            case "share": return row(upTo(9) - 1, upTo(2) == 0 ? upTo(1000001) : upTo(300));
            case "lamp": case "replace": return row(aString(), upTo(20));
            case "tell": return row(aString());
            case "count": case "found": return row(upTo(6));
            default: return row();
        }
    }

    private int[] stringArguments() {
        int kind = upTo(6) == 0 ? 1 : upTo(3) == 0 ? 2 : 0;
        boolean hangs = strings > 0 && upTo(4) != 0;
        int how = 100 * upTo(7) + 10 * kind + (hangs ? 1 : 0);
        int up = hangs ? upTo(strings - 1) : 0;
        int wire = kindTown && upTo(2) > 0 ? 2 + upTo(4) : 1 + upTo(9);
        int lamps = kindTown ? 1 + upTo(12) : 1 + upTo(59);
        return row(how, up, 1 + upTo(99), wire, lamps, 1 + upTo(19));
    }

    private int upTo(int greatest) {
        return random.nextInt(greatest + 1);
    }

    private int aString() {
        return upTo(strings);
    }

    private static int[] row(int... numbers) {
        return numbers;
    }
}
