import java.lang.reflect.Constructor;
import java.lang.reflect.Field;
import java.lang.reflect.Method;
import java.lang.reflect.Modifier;
import java.nio.file.Files;
import java.nio.file.Path;
import java.util.ArrayList;
import java.util.Arrays;
import java.util.List;
import java.util.Set;
import java.util.TreeSet;
import java.util.regex.Matcher;
import java.util.regex.Pattern;

/** The document's face, and the rules of LANGUAGE.md as far as the compiled class and the words of the text tell them. */
public final class LanguageTest {
    private static final String[] FACE = {"crate(int)", "string(int,int,int,int,int,int)", "fuse(int,int)",
        "dead(int,int)", "about(int,int)", "as(int,int)", "told(int,int)", "most(int)", "blow()", "fewest(int)", "fuses()",
        "explain(int)", "look(int,int,int)", "next(int)", "fault(int,boolean)", "crews(int,int)", "open(int,int)",
        "order(int,int)", "plan()", "hung(int,int)", "best()", "front(int,int)", "part(int)", "share(int,int)",
        "lamp(int,int)", "replace(int,int)", "box(int,int)", "tell(int)", "check()", "count(int)", "found(int)"};
    private static final String[] RULED_OUT = {"throw", "throws", "try", "catch", "finally", "synchronized", "assert",
        "var", "yield", "protected", "volatile", "transient", "native", "System\\s*\\.\\s*(?!arraycopy)", "->", "::", "Exact\\b",
        "(?<!\\w)package", "instanceof\\s+\\w+\\s*\\(", "hashCode", "toString", "getClass", "Thread", "Random",
        "currentTimeMillis", "nanoTime", "static\\s*\\{"};

    private static int wrong = 0;

    public static void main(String[] args) throws Exception {
        face();
        nestedClasses();
        words(withoutComments(Files.readString(Path.of("src/main/java/LampFeast.java"))));
        System.out.println(wrong == 0 ? "face and language are as due" : wrong + " faults of face or language");
        if (wrong != 0) {
            System.exit(1);
        }
    }

    private static void dueThat(boolean holds, String what) {
        if (!holds) {
            wrong++;
            System.out.println("not so: " + what);
        }
    }

    private static void face() {
        Set<String> publics = new TreeSet<>();
        Set<String> publicNames = new TreeSet<>();
        List<String> privateNames = new ArrayList<>();
        for (Method method : LampFeast.class.getDeclaredMethods()) {
            if (Modifier.isPublic(method.getModifiers())) {
                publics.add(asText(method));
                publicNames.add(method.getName());
                dueThat(method.getReturnType() == int.class, method.getName() + " answers an int");
                dueThat(!Modifier.isStatic(method.getModifiers()), method.getName() + " is not static");
            } else {
                dueThat(Modifier.isPrivate(method.getModifiers()), method.getName() + " is private");
                privateNames.add(method.getName());
            }
        }
        for (Class<?> nested : LampFeast.class.getDeclaredClasses()) {
            for (Method method : nested.getDeclaredMethods()) {
                privateNames.add(method.getName());
            }
        }
        dueThat(publics.equals(new TreeSet<>(Arrays.asList(FACE))), "the public methods are the document's: " + publics);
        for (String name : privateNames) {
            dueThat(!publicNames.contains(name), name + " is no public method's name");
        }
        for (Field field : LampFeast.class.getDeclaredFields()) {
            dueThat(Modifier.isPrivate(field.getModifiers()), field.getName() + " is private");
        }
        Constructor<?>[] made = LampFeast.class.getDeclaredConstructors();
        dueThat(made.length == 1 && Modifier.isPublic(made[0].getModifiers()) && made[0].getParameterCount() == 0,
            "there is one constructor, public, that takes nothing");
        dueThat(Modifier.isPublic(LampFeast.class.getModifiers()) && Modifier.isFinal(LampFeast.class.getModifiers()),
            "the class is public and final");
    }

    private static String asText(Method method) {
        List<String> types = new ArrayList<>();
        for (Class<?> type : method.getParameterTypes()) {
            types.add(type.getName());
        }
        return method.getName() + "(" + String.join(",", types) + ")";
    }

    private static void nestedClasses() {
        dueThat(LampFeast.class.getDeclaredClasses().length < 12, "there are at most twelve classes");
        for (Class<?> nested : LampFeast.class.getDeclaredClasses()) {
            dueThat(Modifier.isStatic(nested.getModifiers()), nested.getName() + " is static");
            int own = 0;
            for (Field field : nested.getDeclaredFields()) {
                boolean isStatic = Modifier.isStatic(field.getModifiers());
                own += isStatic ? 0 : 1;
                dueThat(!isStatic || Modifier.isFinal(field.getModifiers()), field + " is final");
            }
            dueThat(own <= 20, nested.getName() + " has at most twenty fields");
            for (Method method : nested.getDeclaredMethods()) {
                dueThat(method.getParameterCount() <= 7, method + " takes at most seven parameters");
            }
        }
    }

    private static String withoutComments(String text) {
        return text.replaceAll("(?s)/\\*.*?\\*/", " ").replaceAll("//[^\n]*", " ");
    }

    private static void words(String text) {
        for (String word : RULED_OUT) {
            String bounded = word.matches("\\w+") ? "\\b" + word + "\\b" : word;
            Matcher matcher = Pattern.compile(bounded).matcher(text);
            dueThat(!matcher.find(), "the text has no " + word);
        }
        Matcher imported = Pattern.compile("import\\s+([\\w.*]+)").matcher(text);
        while (imported.find()) {
            dueThat(Set.of("java.util.Arrays", "java.util.ArrayList", "java.util.List", "java.util.Iterator")
                .contains(imported.group(1)), "no library but what the rules list: " + imported.group(1));
        }
        dueThat(text.chars().allMatch(c -> c < 128), "the text is of plain signs");
        for (String method : text.split("\n    (    )?}\n")) {
            dueThat(method.split("\n").length <= 70, "no method is long: " + method.strip().split("\n")[0]);
        }
    }
}
