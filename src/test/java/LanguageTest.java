import java.io.IOException;
import java.lang.reflect.Constructor;
import java.lang.reflect.Field;
import java.lang.reflect.Member;
import java.lang.reflect.Method;
import java.lang.reflect.Modifier;
import java.nio.file.Files;
import java.nio.file.Path;
import java.util.Map;
import java.util.Set;
import java.util.TreeMap;
import java.util.TreeSet;
import java.util.regex.Matcher;
import java.util.regex.Pattern;

/** The document's face, and the rules of LANGUAGE.md that can be read off the source and the class. */
public final class LanguageTest {
    private static final Path SOURCE = Path.of("src/main/java/BurntLetters.java");
    private static final String[] FACE = {
        "int letter(int)", "int blank()", "int fault()", "int law()", "int under(int,int)", "int file(int,int)",
        "int about(int,int)", "int as(int,int)", "int copy(int,int)", "int rename(int,int,int)", "int point(int,int)",
        "int burn(int)", "int odds(int,int,int)", "int where(int,int)", "int sure(int,int,int)", "int nowhere()",
        "int moving(int)", "int ashes(int)", "int forget()", "int fits()", "int burnt(int)", "int years(int,int,int)",
        "int image()", "int restore()", "int count(int)", "long digest()"};
    private static final String[] BANNED = {"throw", "throws", "try", "catch", "finally", "synchronized", "assert",
        "import", "package", "protected", "native", "volatile", "transient", "Object", "Random", "System\\.(?!arraycopy)",
        "Thread", "->", "::", "equals", "hashCode", "toString"};
    private static final Due due = new Due();

    public static void main(String[] args) throws IOException {
        face();
        classesInside();
        String source = withoutComments(Files.readString(SOURCE));
        for (String word : BANNED) {
            Pattern pattern = Pattern.compile(Character.isLetter(word.charAt(0)) ? "\\b" + word + "(?!\\w)" : word);
            due.isTrue("the source has no " + word, !pattern.matcher(source).find());
        }
        for (int i = 0; i < source.length(); i++) {
            if (source.charAt(i) > 126) {
                due.isTrue("signs are 1 to 127", false);
            }
        }
        methodsAreShort(source);
        callsAreNotDeep(source);
        due.end();
    }

    private static void face() {
        Class<?> type = BurntLetters.class;
        due.is("modifiers", type.getModifiers(), Modifier.PUBLIC | Modifier.FINAL);
        Set<String> open = new TreeSet<>();
        Set<String> hidden = new TreeSet<>();
        for (Method m : type.getDeclaredMethods()) {
            if (Modifier.isPrivate(m.getModifiers())) {
                hidden.add(m.getName());
            } else {
                due.is(m + " is public alone", m.getModifiers(), Modifier.PUBLIC);
                open.add(m.toString().replace("public ", "").replace("BurntLetters.", ""));
            }
        }
        due.isTrue("methods are " + open, open.equals(new TreeSet<>(Set.of(FACE))));
        for (Method m : type.getMethods()) {
            due.isTrue("no private " + m.getName(), !hidden.contains(m.getName()));
        }
        Set<String> constants = new TreeSet<>();
        for (Field f : type.getDeclaredFields()) {
            if (!Modifier.isPrivate(f.getModifiers())) {
                due.is(f + "", f.getModifiers(), Modifier.PUBLIC | Modifier.STATIC | Modifier.FINAL);
                constants.add(f.getName());
            }
        }
        due.isTrue("constants are " + constants,
            constants.equals(new TreeSet<>(Set.of("NONE", "UNKNOWN", "OUTSIDE", "STATE", "FULL"))));
        Constructor<?>[] made = type.getDeclaredConstructors();
        due.is("constructors", made.length, 1);
        due.is("its parameters", made[0].getParameterCount(), 0);
        due.isTrue("it is public", Modifier.isPublic(made[0].getModifiers()));
    }

    private static void classesInside() {
        Class<?>[] inside = BurntLetters.class.getDeclaredClasses();
        due.isTrue("at most twelve classes", inside.length < 12);
        Set<String> openNames = new TreeSet<>();
        for (Method m : BurntLetters.class.getMethods()) {
            openNames.add(m.getName());
        }
        for (Class<?> type : inside) {
            due.isTrue(type + " is static", Modifier.isStatic(type.getModifiers()));
            due.isTrue(type + " has few fields", type.getDeclaredFields().length <= 20);
            for (Field f : type.getDeclaredFields()) {
                staticIsConstant(f);
            }
            for (Method m : type.getDeclaredMethods()) {
                due.isTrue(m + " has another name than the face's", !openNames.contains(m.getName()));
                due.isTrue(m + " takes at most seven", m.getParameterCount() <= 7);
            }
        }
    }

    private static void staticIsConstant(Member field) {
        int is = field.getModifiers();
        due.isTrue(field + " is final if static", !Modifier.isStatic(is) || Modifier.isFinal(is));
    }

    private static void methodsAreShort(String source) {
        Matcher heads = Pattern.compile("(?m)^( {4}| {8})[^ \\n}].*\\) \\{$").matcher(source);
        int found = 0;
        while (heads.find()) {
            int end = source.indexOf("\n" + heads.group(1) + "}", heads.end());
            long lines = source.substring(heads.end(), end).chars().filter(c -> c == '\n').count();
            due.isTrue(heads.group().trim() + " is short", lines <= 60);
            found++;
        }
        due.isTrue("methods were found", found > 50);
    }

    /** Rule 11: calls that are no recursion go at most eight deep, a call of the library being one of them. */
    private static void callsAreNotDeep(String source) {
        Map<String, Set<String>> calls = new TreeMap<>();
        Matcher heads = Pattern
            .compile("(?m)^( {4}| {8})(?!if |for |while |switch )[^ \\n}].*?(\\w+)\\(.*\\) \\{$")
            .matcher(source);
        while (heads.find()) {
            int end = source.indexOf("\n" + heads.group(1) + "}", heads.end());
            // Methods of one name in two classes are taken for one that calls what both do.
            Set<String> called = calls.computeIfAbsent(heads.group(2), name -> new TreeSet<>());
            Matcher names = Pattern.compile("\\b(\\w+)\\(").matcher(source.substring(heads.end(), end));
            while (names.find()) {
                called.add(names.group(1));
            }
        }
        for (String name : calls.keySet()) {
            due.isTrue(name + " is deep by " + depth(calls, name, 0), depth(calls, name, 0) <= 8);
        }
        due.isTrue("chains of calls were found", depth(calls, "digest", 0) > 4);
    }

    private static int depth(Map<String, Set<String>> calls, String name, int above) {
        if (name.matches("if|for|while|switch|return")) {
            return 0;
        }
        int deepest = 0;
        for (String called : calls.getOrDefault(name, Set.of())) {
            // A method may call itself; a ring of several would go beyond any bound here.
            if (!called.equals(name) && above < 20) {
                deepest = Math.max(deepest, depth(calls, called, above + 1));
            }
        }
        return deepest + 1;
    }

    private static String withoutComments(String source) {
        return source.replaceAll("(?s)/\\*.*?\\*/", "").replaceAll("//[^\n]*", "");
    }
}
