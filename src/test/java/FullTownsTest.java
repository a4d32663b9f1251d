import java.util.Random;

/**
 * Promises 11, 12, 13 and 30 in towns of up to 24 strings, where Model, which tries all sets, would take too long: the
 * fewest fuses against a search from the main downwards, and what is explained against what then is dark.
 */
public final class FullTownsTest {
    private static final int TOWNS = 400;
    private static final int STRINGS = 24;

    private static int wrong = 0;
    private static int sets = 0;
    private static int explained = 0;

    private final String name;
    private final Random random;
    private final LampFeast feast = new LampFeast();
    private final int strings;
    private final int[] kind = new int[STRINGS];
    private final int[] up = new int[STRINGS];
    private final int[] bears = new int[STRINGS];
    private final int[] worst = new int[STRINGS];
    private int best = -1;

    private FullTownsTest(int seed) {
        name = "town " + seed;
        random = new Random(seed);
        strings = 15 + random.nextInt(STRINGS - 14);
    }

    public static void main(String[] args) {
        for (int seed = 1; seed <= TOWNS; seed++) {
            FullTownsTest town = new FullTownsTest(seed);
            town.hang();
            town.search(0, 0);
            town.fewest();
            town.check();
            town.explain();
        }
        dueAtLeast(TOWNS / 4, sets, "towns have a set");
        dueAtLeast(TOWNS, explained, "rows are explained");
        System.out.println(sets + " sets, " + explained + " explained, " + wrong + " not as due");
        if (wrong != 0) {
            System.exit(1);
        }
    }

    /** Towns without a set, or rows without a way, would show little. */
    private static void dueAtLeast(int least, int got, String what) {
        if (got < least) {
            wrong++;
            System.out.println("only " + got + " " + what);
        }
    }

    private void due(int want, int got, String call) {
        if (got != want) {
            wrong++;
            System.out.println(name + ": " + call + " answered " + got + ", due is " + want);
        }
    }

    private void hang() {
        feast.crate(1000);
        int greatest = 2 + random.nextInt(10);
        for (int s = 0; s < strings; s++) {
            up[s] = s == 0 || random.nextInt(8) == 0 ? -1 : Math.max(0, s - 1 - random.nextInt(5));
            kind[s] = random.nextInt(9) == 0 ? 1 : random.nextInt(9) == 0 ? 2 : 0;
            int wire = Math.min(10, 1 + random.nextInt(5) + random.nextInt(5) * Math.max(0, 12 - s) / 12);
            int lamps = 1 + random.nextInt(greatest);
            int watt = 1 + random.nextInt(19);
            bears[s] = 500 * wire;
            int how = 10 * kind[s] + (up[s] < 0 ? 0 : 1);
            due(s, feast.string(how, Math.max(0, up[s]), 1, wire, lamps, watt), "string");
            for (int a = s; a >= 0; a = up[a]) {
                worst[a] += lamps * watt * (kind[s] == 2 ? 2 : 1);
            }
        }
    }

    /** Those below s are chosen: s is left out, then taken in. */
    private void search(int s, int set) {
        if (best >= 0 && Integer.bitCount(set) > Integer.bitCount(best)) {
            return;
        }
        if (s == strings) {
            boolean fewer = best < 0 || Integer.bitCount(set) < Integer.bitCount(best);
            best = fewer || set < best ? set : best;
            return;
        }
        for (int in = 0; in <= 1; in++) {
            int with = set | in << s;
            if (isGuarded(s, with)) {
                search(s + 1, with);
            }
        }
    }

    private boolean isGuarded(int s, int set) {
        if (kind[s] == 1 && ((set >> s & 1) == 0 || worst[s] > 500)) {
            return false;
        }
        int guard = s;
        while (guard >= 0 && (set >> guard & 1) == 0) {
            guard = up[guard];
        }
        return guard >= 0 && worst[guard] <= bears[s];
    }

    private void fewest() {
        int many = best < 0 ? Run.NONE : Integer.bitCount(best);
        due(many, feast.fewest(0), "fewest(0)");
        due(best < 0 ? Run.NONE : best, feast.fewest(1), "fewest(1)");
        feast.fuse(0, 60000);
        due(many, feast.fuses(), "fuses()");
        for (int s = 0; s < strings; s++) {
            int without = s == 0 ? 60000 : 0;
            int fuse = best < 0 ? without : (best >> s & 1) == 1 ? worst[s] : 0;
            due(fuse, feast.about(s, 7), "about(" + s + ", 7)");
        }
        sets += best < 0 ? 0 : 1;
    }

    private void check() {
        for (int s = 0; s < strings; s++) {
            if (best >= 0 && (best >> s & 1) == 1) {
                feast.tell(s);
            }
        }
        due(best < 0 ? Run.NONE : 0, feast.check(), "check()");
    }

    private void explain() {
        for (int i = 0; i < 10; i++) {
            int dead = random.nextInt(1 << strings) & random.nextInt(1 << strings) & random.nextInt(1 << strings);
            int dark = darkBy(dead);
            int answer = feast.explain(dark);
            due(dark, darkBy(answer), "what is dark by explain(" + dark + ")");
            for (int s = 0; s < strings; s++) {
                if ((answer >> s & 1) == 1 && darkBy(answer & ~(1 << s)) == dark) {
                    due(answer & ~(1 << s), answer, "explain(" + dark + ")");
                }
            }
            explained++;
            int some = random.nextInt(1 << strings);
            due(darkBy(some) == some ? feast.explain(some) : Run.NONE, feast.explain(some), "explain(" + some + ")");
        }
        due(Run.BEYOND, feast.explain(1 << strings), "explain(" + (1 << strings) + ")");
    }

    private int darkBy(int dead) {
        int dark = 0;
        for (int s = 0; s < strings; s++) {
            boolean is = (dead >> s & 1) == 1 || (up[s] >= 0 && (dark >> up[s] & 1) == 1);
            dark |= is ? 1 << s : 0;
        }
        return dark;
    }
}
