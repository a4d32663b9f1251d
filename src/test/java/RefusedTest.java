import java.util.ArrayList;
import java.util.Arrays;
import java.util.LinkedHashMap;
import java.util.List;
import java.util.Map;

/**
 * "Each act tells its findings in the order in which they are asked; one that answers a finding changes nothing but what
 * found() tells." In some towns, from an empty one to a full one: each call with numbers at all edges and just beside
 * them, held against the model; and after each refused one, all that can be asked, held against the same town without it.
 */
public final class RefusedTest {
    private static final int ALL = (1 << 24) - 1;

    private record Call(String method, int... args) {
        @Override
        public String toString() {
            return Run.asText(method, args);
        }
    }

    private final String name;
    private final List<Call> made;
    private final int strings;
    private final int crates;
    private final List<Call> questions = new ArrayList<>();
    private final List<Integer> due;
    private final List<Integer> dueAfterCheck;
    private int wrong = 0;
    private int refused = 0;

    private RefusedTest(String name, List<Call> made) {
        this.name = name;
        this.made = made;
        LampFeast feast = play(made);
        strings = feast.count(0);
        crates = feast.count(1);
        askOfStrings();
        askOfAll();
        askByChanges();
        due = answers(made);
        dueAfterCheck = answers(made.stream().filter(call -> !call.method.equals("tell")).toList());
    }

    public static void main(String[] args) {
        int wrong = 0;
        int refused = 0;
        for (Map.Entry<String, List<Call>> town : towns().entrySet()) {
            RefusedTest test = new RefusedTest(town.getKey(), town.getValue());
            test.edgeCalls().forEach(test::isAsDue);
            wrong += test.wrong;
            refused += test.refused;
        }
        System.out.println(refused + " calls refused, " + wrong + " answers not as due");
        if (wrong != 0) {
            System.exit(1);
        }
    }

    // ---- towns

    private static Map<String, List<Call>> towns() {
        Map<String, List<Call>> towns = new LinkedHashMap<>();
        towns.put("a new object", List.of());
        towns.put("no lamps left", noLampsLeft());
        towns.put("a town", town());
        towns.put("a town without a set", withMore(town(), new Call("string", 11, 3, 1, 10, 60, 20)));
        towns.put("seven strings", sevenStrings());
        towns.put("all is full", full(1000));
        towns.put("all is full, no lamps left", full(2));
        return towns;
    }

    private static List<Call> withMore(List<Call> calls, Call... more) {
        List<Call> all = new ArrayList<>(calls);
        all.addAll(Arrays.asList(more));
        return all;
    }

    private static List<Call> noLampsLeft() {
        return List.of(new Call("crate", 2), new Call("crate", 3), new Call("string", 0, 0, 1, 1, 4, 1),
            new Call("replace", 0, 0), new Call("dead", 0, 1), new Call("look", 0, 1, 1), new Call("tell", 0));
    }

    private static List<Call> town() {
        return List.of(new Call("crate", 100), new Call("crate", 50), new Call("string", 0, 0, 40, 9, 9, 10),
            new Call("string", 101, 0, 100, 5, 3, 5), new Call("string", 211, 1, 20, 1, 4, 20),
            new Call("string", 321, 0, 60, 10, 5, 4), new Call("fuse", 0, 321), new Call("fuse", 2, 100),
            new Call("dead", 2, 1), new Call("look", 2, 0, 1), new Call("look", 2, 2, 0), new Call("dead", 3, 1),
            new Call("look", 3, 3, 1), new Call("most", 777), new Call("crews", 2, 7), new Call("open", 1, 5),
            new Call("open", 2, 64), new Call("order", 3, 1), new Call("front", 0, 3), new Call("front", 5, 7),
            new Call("part", 33), new Call("replace", 1, 1), new Call("tell", 0), new Call("tell", 2));
    }

    private static List<Call> sevenStrings() {
        List<Call> calls = new ArrayList<>(List.of(new Call("crate", 70), new Call("crews", 1, 5), new Call("tell", -5)));
        for (int s = 0; s < 7; s++) {
            calls.add(new Call("string", 100 * s + (s % 3 == 0 ? 0 : 1), s % 3 == 0 ? 0 : s - 1, 10 + 10 * s, 1, s + 2, 3));
        }
        return withMore(calls, new Call("order", 6, 2), new Call("open", 3, 0), new Call("dead", 3, 1));
    }

    /** With 2 lamps in each crate the 24 strings take all. */
    private static List<Call> full(int lamps) {
        List<Call> calls = new ArrayList<>();
        for (int crate = 0; crate < 12; crate++) {
            calls.add(new Call("crate", lamps));
        }
        for (int s = 0; s < 24; s++) {
            calls.add(new Call("string", s % 5 == 0 ? 20 : 201, s % 5 == 0 ? 0 : s - 1, 4 * s + 1, 2, 1, 20));
            calls.add(new Call("tell", s));
        }
        return withMore(calls, new Call("fuse", 23, 15), new Call("dead", 10, 1), new Call("dead", 23, 1),
            new Call("order", 23, 20), new Call("open", 2, 40), new Call("crews", 3, 12), new Call("front", 7, 1000));
    }

    // ---- calls at all edges

    private List<Call> edgeCalls() {
        int[] s = numbers(0, strings - 1, 23);
        int[] p = numbers(0, 2, 3, 4, 59);
        List<Call> calls = new ArrayList<>();
        addAll(calls, "crate", numbers(1, 2, 1000));
        addStrings(calls);
        addAll(calls, "fuse", s, numbers(0, 1, 60000));
        addAll(calls, "dead", s, numbers(0, 1));
        addAll(calls, "about", s, numbers(0, 9));
        addAll(calls, "as", s, numbers(0, 2));
        addAll(calls, "told", s, numbers(0, 3));
        addAll(calls, "most", numbers(0, 100000));
        addAll(calls, "blow");
        addAll(calls, "fewest", numbers(0, 1));
        addAll(calls, "fuses");
        addAll(calls, "explain", numbers(0, 1, 2, 6, (1 << strings) - 1, ALL));
        addAll(calls, "look", s, p, numbers(0, 1));
        addAll(calls, "next", s);
        addAll(calls, "fault", s, new int[] {0, 1});
        addAll(calls, "crews", numbers(1, 3), numbers(1, 12));
        addAll(calls, "open", numbers(0, 7), numbers(0, 127));
        addAll(calls, "order", s, s);
        addAll(calls, "plan");
        addAll(calls, "hung", s, numbers(0, 3));
        addAll(calls, "best");
        addAll(calls, "front", numbers(0, 7), numbers(0, 1000));
        addAll(calls, "part", numbers(0, 100));
        addAll(calls, "share", numbers(-1, 0, 7), numbers(0, 1, 1000000));
        addAll(calls, "lamp", s, p);
        addAll(calls, "replace", s, p);
        addAll(calls, "box", numbers(0, crates - 1, 11), numbers(0, 3));
        addAll(calls, "tell", numbers(0, 23));
        addAll(calls, "check");
        addAll(calls, "count", numbers(0, 5));
        addAll(calls, "found", numbers(1, 5));
        return calls;
    }

    /** Each of these, the one below and the one above it, and the farthest ones. */
    private static int[] numbers(int... edges) {
        List<Integer> all = new ArrayList<>(List.of(Run.MIN, Run.MAX));
        for (int edge : edges) {
            for (int number = edge - 1; number <= edge + 1; number++) {
                if (!all.contains(number)) {
                    all.add(number);
                }
            }
        }
        return all.stream().mapToInt(Integer::intValue).toArray();
    }

    private static void addAll(List<Call> calls, String method, int[]... choices) {
        addFrom(calls, method, new int[choices.length], 0, choices);
    }

    private static void addFrom(List<Call> calls, String method, int[] args, int place, int[][] choices) {
        if (place == choices.length) {
            calls.add(new Call(method, args.clone()));
            return;
        }
        for (int number : choices[place]) {
            args[place] = number;
            addFrom(calls, method, args, place + 1, choices);
        }
    }

    /** Each number of a string at its edges, with another one at its own. */
    private void addStrings(List<Call> calls) {
        int[][] choices = {{Run.MIN, -100, -1, 0, 1, 2, 9, 10, 11, 20, 21, 29, 30, 31, 700, 721, 730, 800, Run.MAX},
            numbers(0, strings - 1, 23), numbers(1, 100), numbers(1, 10), numbers(1, 60), numbers(1, 20)};
        for (int how : choices[0]) {
            for (int up : choices[1]) {
                calls.add(new Call("string", how, up, 100, 10, 1, 20));
            }
        }
        for (int place = 2; place < 6; place++) {
            for (int number : choices[place]) {
                for (int lamps : new int[] {1, 60, 61}) {
                    int[] args = {20, 0, 1, 1, lamps, 1};
                    args[place] = number;
                    calls.add(new Call("string", args));
                }
            }
        }
    }

    // ---- what is due

    private static LampFeast play(List<Call> calls) {
        LampFeast feast = new LampFeast();
        for (Call call : calls) {
            Run.call(feast, call.method, call.args);
        }
        return feast;
    }

    private void isAsDue(Call call) {
        if (triesAllSets(call) && strings > 12) {
            return;
        }
        Model model = new Model();
        made.forEach(c -> model.call(c.method, c.args));
        int want = model.call(call.method, call.args);
        compare(want, Run.call(play(made), call.method, call.args), call, "it");
        if (want < Run.LOW) {
            refused++;
            changesNothing(call, Run.LOW - want);
        }
    }

    /** The model would take too long over these with many strings. */
    private boolean triesAllSets(Call call) {
        switch (call.method) {
            case "fuses": case "check": return true;
            case "fewest": return call.args[0] == 0 || call.args[0] == 1;
            case "explain": return call.args[0] >= 0 && call.args[0] < 1 << strings;
            default: return false;
        }
    }

    private void compare(int want, int got, Call call, String asked) {
        if (got != want) {
            wrong++;
            System.out.println(name + ", " + call + ": " + asked + " answered " + got + ", due is " + want);
        }
    }

    /** But for the numbers that wait: they are gone by check(), even if it is refused. */
    private void changesNothing(Call call, int k) {
        List<Integer> want = call.method.equals("check") ? dueAfterCheck : due;
        List<Integer> got = answers(withMore(made, call));
        for (int i = 0; i < questions.size(); i++) {
            Call question = questions.get(i);
            boolean isThisFinding = question.method.equals("found") && question.args[0] == k;
            compare(isThisFinding ? want.get(i) + 1 : want.get(i), got.get(i), call, "after it " + question);
        }
    }

    /** The answers to all questions, asked of new objects where one would come to too many calls. */
    private List<Integer> answers(List<Call> calls) {
        List<Integer> answers = new ArrayList<>();
        LampFeast feast = play(calls);
        int left = Run.MOST_CALLS - calls.size();
        for (Call question : questions) {
            if (left == 0) {
                feast = play(calls);
                left = Run.MOST_CALLS - calls.size();
            }
            answers.add(Run.call(feast, question.method, question.args));
            left--;
        }
        return answers;
    }

    private static int[] upTo(int least, int greatest) {
        int[] row = new int[Math.max(0, greatest - least + 1)];
        for (int i = 0; i < row.length; i++) {
            row[i] = least + i;
        }
        return row;
    }

    /** What found() tells is asked first: the questions that follow have findings of their own. */
    private void askOfStrings() {
        int[] s = upTo(0, strings - 1);
        addAll(questions, "found", upTo(1, 5));
        addAll(questions, "count", upTo(0, 5));
        addAll(questions, "about", s, upTo(0, 9));
        addAll(questions, "told", s, upTo(0, 3));
        addAll(questions, "as", s, new int[] {0});
        addAll(questions, "fault", s, upTo(0, 1));
        addAll(questions, "hung", s, upTo(0, 3));
        addAll(questions, "lamp", s, upTo(0, 4));
    }

    private void askOfAll() {
        addAll(questions, "fewest", upTo(0, 1));
        addAll(questions, "explain", new int[] {0, (1 << strings) - 1});
        addAll(questions, "plan");
        addAll(questions, "share", upTo(-1, 7), new int[] {12345});
        addAll(questions, "box", upTo(0, crates - 1), upTo(0, 3));
    }

    /** These change the town, and tell by that what it was. */
    private void askByChanges() {
        int[] s = upTo(0, strings - 1);
        addAll(questions, "check");
        addAll(questions, "tell", new int[] {5});
        addAll(questions, "most", new int[] {3});
        addAll(questions, "part", new int[] {3});
        addAll(questions, "open", upTo(0, 7), new int[] {3});
        addAll(questions, "front", upTo(0, 7), new int[] {3});
        addAll(questions, "replace", s, new int[] {0});
        addAll(questions, "crate", new int[] {3});
        questions.add(new Call("string", 0, 0, 1, 1, 3, 1));
        addAll(questions, "order", s, new int[] {0});
        addAll(questions, "blow");
        addAll(questions, "dead", s, new int[] {1});
        addAll(questions, "fuses");
        addAll(questions, "fuse", s, new int[] {3});
    }
}
