import java.util.ArrayList;
import java.util.Arrays;
import java.util.List;

/**
 * The document once more, as plainly as it can be told and without regard to time or room: chains are walked, sets and
 * orders are all tried. RandomRunsTest and RefusedTest hold the program against it.
 */
final class Model {
    private static final int LOW = -1000000000;
    private static final int BEYOND = LOW - 1;
    private static final int NONE = LOW - 2;
    private static final int STATE = LOW - 3;
    private static final int FULL = LOW - 4;
    private static final int KIND = LOW - 5;

    private static final class Crate {
        int lamps;
        int left;
        int faulty;
    }

    private static final class Light {
        int number;
        Light up;
        int kind;
        int street;
        int length;
        int wire;
        int watt;
        int fuse;
        boolean dead;
        int first;
        int last;
        int night;
        int crew;
        List<Crate> lamps = new ArrayList<>();

        int load() {
            return lamps.size() * watt * (kind == 2 ? 2 : 1);
        }

        boolean dark() {
            return dead || (up != null && up.dark());
        }

        int hours() {
            return 1 + length / 20;
        }

        int bears() {
            return 500 * wire;
        }
    }

    private final List<Crate> crates = new ArrayList<>();
    private final List<Light> lights = new ArrayList<>();
    private final List<Integer> waiting = new ArrayList<>();
    private final int[] found = new int[6];
    private final int[] rows = new int[8];
    private final int[] fronts = new int[8];
    private List<Integer> order = new ArrayList<>();
    private int most = 1000;
    private int crews = 1;
    private int hours = 6;
    private int part = 50;

    Model() {
        Arrays.fill(rows, 127);
    }

    int call(String method, int... a) {
        int answer = answer(method, a);
        if (answer < LOW) {
            found[LOW - answer]++;
        }
        return answer;
    }

    private int answer(String method, int[] a) {
        switch (method) {
            case "crate": return crate(a[0]);
            case "string": return string(a);
            case "fuse": return fuse(a[0], a[1]);
            case "dead": return dead(a[0], a[1]);
            case "about": return about(a[0], a[1]);
            case "as": return as(a[0], a[1]);
            case "told": return told(a[0], a[1]);
            case "blow": return blow();
            case "fewest": return fewest(a[0]);
            case "fuses": return fuses();
            case "explain": return explain(a[0]);
            case "look": return look(a[0], a[1], a[2]);
            case "next": return next(a[0]);
            case "fault": return fault(a[0], a[1] == 1);
            case "order": return order(a[0], a[1]);
            case "plan": return planBy(order);
            case "hung": return hung(a[0], a[1]);
            case "best": return best();
            case "share": return share(a[0], a[1]);
            case "lamp": return isLamp(a[0], a[1]) ? crates.indexOf(lights.get(a[0]).lamps.get(a[1])) : BEYOND;
            case "replace": return replace(a[0], a[1]);
            case "box": return box(a[0], a[1]);
            case "check": return check();
            case "count": return count(a[0]);
            case "found": return in(a[0], 1, 5) ? found[a[0]] : BEYOND;
            default: return setting(method, a);
        }
    }

    private int setting(String method, int[] a) {
        int was;
        switch (method) {
            case "most":
                was = most;
                most = in(a[0], 0, 100000) ? a[0] : most;
                return in(a[0], 0, 100000) ? was : BEYOND;
            case "crews":
                if (!in(a[0], 1, 3) || !in(a[1], 1, 12)) {
                    return BEYOND;
                }
                crews = a[0];
                hours = a[1];
                return 1;
            case "open": return put(rows, a[0], a[1], 127);
            case "front": return put(fronts, a[0], a[1], 1000);
            case "part":
                was = part;
                part = in(a[0], 0, 100) ? a[0] : part;
                return in(a[0], 0, 100) ? was : BEYOND;
            case "tell":
                if (waiting.size() == 24) {
                    return FULL;
                }
                waiting.add(a[0]);
                return waiting.size();
            default: throw new IllegalStateException(method);
        }
    }

    private static int put(int[] numbers, int place, int v, int greatest) {
        if (!in(place, 0, numbers.length - 1) || !in(v, 0, greatest)) {
            return BEYOND;
        }
        int was = numbers[place];
        numbers[place] = v;
        return was;
    }

    private static boolean in(int v, int least, int greatest) {
        return least <= v && v <= greatest;
    }

    private boolean isLight(int s) {
        return in(s, 0, lights.size() - 1);
    }

    private boolean isLamp(int s, int p) {
        return isLight(s) && in(p, 0, lights.get(s).lamps.size() - 1);
    }

    private int crate(int lamps) {
        if (!in(lamps, 1, 1000)) {
            return BEYOND;
        }
        if (crates.size() == 12) {
            return FULL;
        }
        Crate crate = new Crate();
        crate.lamps = lamps;
        crate.left = lamps;
        crates.add(crate);
        return crates.size() - 1;
    }

    private int lampsLeft() {
        return crates.stream().mapToInt(c -> c.left).sum();
    }

    private Crate takeOne() {
        Crate from = crates.stream().filter(c -> c.left > 0).findFirst().orElseThrow();
        from.left--;
        return from;
    }

    private int string(int[] a) {
        int street = a[0] / 100;
        int kind = (a[0] - 100 * street) / 10;
        int digit = a[0] - 100 * street - 10 * kind;
        boolean rightHow = a[0] >= 0 && in(street, 0, 7) && in(kind, 0, 2) && in(digit, 0, 1);
        boolean rightUp = digit == 1 ? isLight(a[1]) : a[1] == 0;
        if (!rightHow || !rightUp || !in(a[2], 1, 100) || !in(a[3], 1, 10) || !in(a[4], 1, 60) || !in(a[5], 1, 20)) {
            return BEYOND;
        }
        if (lampsLeft() < a[4]) {
            return STATE;
        }
        if (lights.size() == 24) {
            return FULL;
        }
        Light light = new Light();
        light.number = lights.size();
        light.up = digit == 1 ? lights.get(a[1]) : null;
        light.kind = kind;
        light.street = street;
        light.length = a[2];
        light.wire = a[3];
        light.watt = a[5];
        for (int p = 0; p < a[4]; p++) {
            light.lamps.add(takeOne());
        }
        lights.add(light);
        order.add(light.number);
        return light.number;
    }

    private int fuse(int s, int fuse) {
        if (!isLight(s) || !in(fuse, 0, 60000)) {
            return BEYOND;
        }
        int was = lights.get(s).fuse;
        lights.get(s).fuse = fuse;
        return was;
    }

    private int dead(int s, int is) {
        if (!isLight(s) || !in(is, 0, 1)) {
            return BEYOND;
        }
        Light light = lights.get(s);
        int was = light.dead ? 1 : 0;
        if (was == 0 && is == 1) {
            die(light);
        }
        light.dead = is == 1;
        return was;
    }

    private static void die(Light light) {
        light.dead = true;
        light.first = 0;
        light.last = light.lamps.size() - 1;
    }

    private int about(int s, int what) {
        if (!isLight(s) || !in(what, 0, 9)) {
            return BEYOND;
        }
        Light l = lights.get(s);
        int up = l.up == null ? -1 : l.up.number;
        return new int[] {l.kind, up, l.street, l.length, l.wire, l.lamps.size(), l.watt, l.fuse, l.dead ? 1 : 0,
            l.dark() ? 1 : 0}[what];
    }

    private int as(int s, int kind) {
        if (!isLight(s) || !in(kind, 0, 2)) {
            return BEYOND;
        }
        Light light = lights.get(s);
        return kind == 0 || kind == light.kind ? light.load() : KIND;
    }

    private int current(Light light) {
        if (light.dark()) {
            return 0;
        }
        return light.load() + lights.stream().filter(l -> l.up == light).mapToInt(this::current).sum();
    }

    private int worst(Light light) {
        return light.load() + lights.stream().filter(l -> l.up == light).mapToInt(this::worst).sum();
    }

    private int fall(Light light) {
        int own = light.length * worst(light) / (10 * light.wire);
        return light.up == null ? own : fall(light.up) + own;
    }

    private int wrong(Light light) {
        int nearest = 0;
        for (Light l = light; l != null && nearest == 0; l = l.up) {
            nearest = l.fuse;
        }
        if (light.fuse != 0 && worst(light) > light.fuse) {
            return 1;
        }
        if (light.kind == 1 && !in(light.fuse, 1, 500)) {
            return 2;
        }
        if (fall(light) > most) {
            return 3;
        }
        if (light.fuse != 0 && light.fuse > light.bears()) {
            return 4;
        }
        if (nearest == 0) {
            return 5;
        }
        return light.fuse == 0 && nearest > light.bears() ? 6 : 0;
    }

    private int told(int s, int what) {
        if (!isLight(s) || !in(what, 0, 3)) {
            return BEYOND;
        }
        Light l = lights.get(s);
        return what == 0 ? current(l) : what == 1 ? worst(l) : what == 2 ? fall(l) : wrong(l);
    }

    private int blow() {
        for (int blown = 0;; blown++) {
            Light one = null;
            for (Light light : lights) {
                one = light.fuse != 0 && light.fuse < current(light) ? light : one;
            }
            if (one == null) {
                return blown;
            }
            die(one);
        }
    }

    /** The bits of the set, -1 if there is none: all sets in the order of their bits, the first of the fewest. */
    private int fewestSet() {
        int best = -1;
        int[] worst = lights.stream().mapToInt(this::worst).toArray();
        for (int set = 0; set < 1 << lights.size(); set++) {
            if ((best < 0 || Integer.bitCount(set) < Integer.bitCount(best)) && guardsAll(set, worst)) {
                best = set;
            }
        }
        return best;
    }

    private boolean guardsAll(int set, int[] worst) {
        for (Light light : lights) {
            if (light.kind == 1 && ((set >> light.number & 1) == 0 || worst[light.number] > 500)) {
                return false;
            }
            Light guard = light;
            while (guard != null && (set >> guard.number & 1) == 0) {
                guard = guard.up;
            }
            if (guard == null || worst[guard.number] > light.bears()) {
                return false;
            }
        }
        return true;
    }

    private int fewest(int what) {
        if (!in(what, 0, 1)) {
            return BEYOND;
        }
        int set = fewestSet();
        return set < 0 ? NONE : what == 0 ? Integer.bitCount(set) : set;
    }

    private int fuses() {
        int set = fewestSet();
        if (set < 0) {
            return NONE;
        }
        lights.forEach(l -> l.fuse = (set >> l.number & 1) == 1 ? worst(l) : 0);
        return Integer.bitCount(set);
    }

    /** All sets of dead ones are tried: the fewest that make just these dark. */
    private int explain(int dark) {
        if (!in(dark, 0, (1 << lights.size()) - 1)) {
            return BEYOND;
        }
        int best = -1;
        for (int dead = 0; dead < 1 << lights.size(); dead++) {
            if ((best < 0 || Integer.bitCount(dead) < Integer.bitCount(best)) && darkBy(dead) == dark) {
                best = dead;
            }
        }
        return best < 0 ? NONE : best;
    }

    private int darkBy(int dead) {
        int dark = dead;
        for (Light light : lights) {
            if (light.up != null && (dark >> light.up.number & 1) == 1) {
                dark |= 1 << light.number;
            }
        }
        return dark;
    }

    private int look(int s, int p, int burns) {
        if (!isLamp(s, p) || !in(burns, 0, 1)) {
            return BEYOND;
        }
        Light light = lights.get(s);
        if (!light.dead) {
            return STATE;
        }
        List<Integer> may = new ArrayList<>();
        for (int lamp = light.first; lamp <= light.last; lamp++) {
            if (burns == 0 ? lamp <= p : lamp > p) {
                may.add(lamp);
            }
        }
        if (may.isEmpty()) {
            return NONE;
        }
        light.first = may.get(0);
        light.last = may.get(may.size() - 1);
        return may.size();
    }

    private int next(int s) {
        if (!isLight(s)) {
            return BEYOND;
        }
        Light light = lights.get(s);
        return !light.dead ? STATE : light.first == light.last ? NONE : (light.first + light.last) / 2;
    }

    private int fault(int s, boolean last) {
        if (!isLight(s)) {
            return BEYOND;
        }
        Light light = lights.get(s);
        return !light.dead ? STATE : last ? light.last : light.first;
    }

    private int order(int s, int i) {
        if (!isLight(s) || !isLight(i)) {
            return BEYOND;
        }
        int was = order.indexOf(s);
        order.remove(was);
        order.add(i, s);
        return was;
    }

    private int planBy(List<Integer> places) {
        int[][] left = new int[60][crews];
        for (int[] night : left) {
            Arrays.fill(night, hours);
        }
        lights.forEach(l -> l.night = -1);
        lights.forEach(l -> l.crew = -1);
        int end = 0;
        for (int s : places) {
            Light light = lights.get(s);
            hang(light, left);
            end = Math.max(end, light.night < 0 ? 99 : light.night + 1);
        }
        return end;
    }

    private void hang(Light light, int[][] left) {
        if (light.up != null && light.up.night < 0) {
            return;
        }
        for (int night = light.up == null ? 0 : light.up.night; night < 60; night++) {
            for (int crew = 0; crew < crews; crew++) {
                if ((rows[light.street] >> night % 7 & 1) == 1 && left[night][crew] >= light.hours()) {
                    left[night][crew] -= light.hours();
                    light.night = night;
                    light.crew = crew;
                    return;
                }
            }
        }
    }

    private int hung(int s, int what) {
        if (!isLight(s) || !in(what, 0, 3)) {
            return BEYOND;
        }
        planBy(order);
        Light l = lights.get(s);
        return new int[] {l.night, l.crew, order.indexOf(s), l.hours()}[what];
    }

    private int best() {
        if (lights.size() > 6) {
            return STATE;
        }
        List<List<Integer>> all = new ArrayList<>();
        allOrders(new ArrayList<>(), all);
        int best = 100;
        for (List<Integer> one : all) {
            int end = planBy(one);
            if (end < best) {
                best = end;
                order = new ArrayList<>(one);
            }
        }
        return best;
    }

    /** In the order in which the lesser comes first. */
    private void allOrders(List<Integer> begun, List<List<Integer>> all) {
        if (begun.size() == lights.size()) {
            all.add(new ArrayList<>(begun));
        }
        for (int s = 0; s < lights.size(); s++) {
            if (!begun.contains(s)) {
                begun.add(s);
                allOrders(begun, all);
                begun.remove(begun.size() - 1);
            }
        }
    }

    private int share(int shop, int bill) {
        if (!in(shop, -1, 7) || !in(bill, 0, 1000000)) {
            return BEYOND;
        }
        long all = Arrays.stream(fronts).sum();
        if (all == 0) {
            return shop < 0 ? bill : 0;
        }
        int town = (int) ((long) bill * part / 100);
        long parted = bill - town;
        long[] pays = new long[8];
        long[] rests = new long[8];
        long coins = parted;
        for (int i = 0; i < 8; i++) {
            pays[i] = parted * fronts[i] / all;
            rests[i] = parted * fronts[i] % all;
            coins -= pays[i];
        }
        for (; coins > 0; coins--) {
            int most = 0;
            for (int i = 1; i < 8; i++) {
                most = rests[i] > rests[most] ? i : most;
            }
            pays[most]++;
            rests[most] = -1;
        }
        return shop < 0 ? town : (int) pays[shop];
    }

    private int replace(int s, int p) {
        if (!isLamp(s, p)) {
            return BEYOND;
        }
        if (lampsLeft() == 0) {
            return STATE;
        }
        Crate taken = takeOne();
        lights.get(s).lamps.set(p, taken).faulty++;
        return crates.indexOf(taken);
    }

    private int box(int number, int what) {
        if (!in(number, 0, crates.size() - 1) || !in(what, 0, 3)) {
            return BEYOND;
        }
        Crate crate = crates.get(number);
        int hang = 0;
        for (Light light : lights) {
            for (Crate from : light.lamps) {
                hang += from == crate ? 1 : 0;
            }
        }
        return new int[] {crate.lamps, crate.left, crate.faulty, hang}[what];
    }

    private int check() {
        List<Integer> told = new ArrayList<>(waiting);
        waiting.clear();
        int set = fewestSet();
        if (set < 0) {
            return NONE;
        }
        List<Integer> want = new ArrayList<>();
        lights.stream().filter(l -> (set >> l.number & 1) == 1).forEach(l -> want.add(l.number));
        for (int i = 0; i < want.size(); i++) {
            if (i >= told.size() || !told.get(i).equals(want.get(i))) {
                return 1 + i;
            }
        }
        return told.size() > want.size() ? 99 : 0;
    }

    private int count(int what) {
        if (!in(what, 0, 5)) {
            return BEYOND;
        }
        int dead = (int) lights.stream().filter(l -> l.dead).count();
        int dark = (int) lights.stream().filter(Light::dark).count();
        return new int[] {lights.size(), crates.size(), dead, dark, waiting.size(), lampsLeft()}[what];
    }
}
