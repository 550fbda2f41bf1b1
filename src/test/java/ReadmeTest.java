import java.io.IOException;
import java.lang.reflect.InvocationTargetException;
import java.nio.file.Files;
import java.nio.file.Path;
import java.util.ArrayList;
import java.util.Arrays;
import java.util.HashSet;
import java.util.List;
import java.util.Map;
import java.util.Set;
import java.util.regex.Matcher;
import java.util.regex.Pattern;
import java.util.stream.Stream;

/**
 * README.md does not go stale: its run of calls answers as it says, it has every call of the document with the same
 * refusals in the same order, and it names every test.
 */
public final class ReadmeTest {
    private static final Map<String, Long> NAMED = Map.of("NONE", -1L, "UNKNOWN", -101L, "OUTSIDE", -102L, "STATE", -103L,
        "FULL", -104L);
    private static final Pattern REFUSAL = Pattern.compile("\\b(UNKNOWN|OUTSIDE|STATE|FULL)\\b");
    /** A promise's number, its call, and what is said of it. */
    private static final Pattern PROMISE = Pattern
        .compile("(?s)## Promise (\\d+): \\w+\\n+`(?:int|long) (\\w+\\(.*?\\))`(.*?)\\n(?=## )");
    private static final Pattern TYPED = Pattern
        .compile("for \\(char c : \"(.*)\"\\.toCharArray\\(\\)\\) x\\.letter\\(c\\);");
    private static final Pattern CALL = Pattern.compile("x\\.(\\w+)\\((.*)\\); +// (-?\\w+)(?:,.*)?");
    private static final Due due = new Due();

    public static void main(String[] args) throws IOException, IllegalAccessException {
        String readme = Files.readString(Path.of("README.md"));
        String document = Files.readString(Path.of("../shared/DOC.md"));
        runIsAsSaid(readme);
        callsAreAsInTheDocument(readme, document);
        constantsAreAsSaid(readme);
        testsAreNamed(readme);
        due.end();
    }

    private static void runIsAsSaid(String readme) throws IllegalAccessException {
        int from = readme.indexOf("```java\n") + "```java\n".length();
        String[] lines = readme.substring(from, readme.indexOf("```", from)).split("\n");
        due.isTrue("the run makes an object first", lines[0].equals("BurntLetters x = new BurntLetters();"));
        BurntLetters x = new BurntLetters();
        Set<String> asked = new HashSet<>();
        for (String line : Arrays.copyOfRange(lines, 1, lines.length)) {
            Matcher typed = TYPED.matcher(line);
            Matcher call = CALL.matcher(line);
            if (typed.matches()) {
                Due.type(x, typed.group(1));
                asked.add("letter");
            } else if (call.matches()) {
                due.is("README: " + line, answer(x, call.group(1), call.group(2)), number(call.group(3)));
                asked.add(call.group(1));
            } else {
                due.isTrue("README: a call and its answer: " + line, false);
            }
        }
        due.is("calls that the run shows", asked.size(), 26);
    }

    private static long number(String word) {
        return NAMED.containsKey(word) ? NAMED.get(word) : Long.parseLong(word);
    }

    private static long answer(BurntLetters x, String name, String arguments) throws IllegalAccessException {
        Object[] numbers = Stream.of(arguments.split(", ")).filter(word -> !word.isEmpty())
            .map(word -> (int) number(word.replace("BurntLetters.", ""))).toArray();
        Class<?>[] types = new Class<?>[numbers.length];
        Arrays.fill(types, int.class);
        try {
            return ((Number) BurntLetters.class.getMethod(name, types).invoke(x, numbers)).longValue();
        } catch (NoSuchMethodException | InvocationTargetException e) {
            due.isTrue("README: " + name + " can be called: " + e, false);
            return Long.MIN_VALUE;
        }
    }

    private static void callsAreAsInTheDocument(String readme, String document) {
        Matcher promises = PROMISE.matcher(document);
        int found = 0;
        while (promises.find()) {
            found++;
            String call = promises.group(2).replace("int ", "");
            String row = "\n| " + promises.group(1) + " | `" + call + "` |";
            int from = readme.indexOf(row);
            due.isTrue("README has" + row.trim(), from >= 0);
            if (from >= 0) {
                String cells = readme.substring(from + row.length(), readme.indexOf("\n", from + 1));
                due.isTrue("README's refusals of " + call + " are " + refusals(cells),
                    refusals(cells).equals(refusals(promises.group(3))));
            }
        }
        due.is("calls of the document", found, 26);
    }

    private static List<String> refusals(String text) {
        List<String> names = new ArrayList<>();
        Matcher refusal = REFUSAL.matcher(text);
        while (refusal.find()) {
            names.add(refusal.group());
        }
        return names;
    }

    private static void constantsAreAsSaid(String readme) {
        NAMED.forEach((name, value) ->
            due.isTrue("README has " + name + " by its number", readme.contains("| `" + name + "` | " + value + " |")));
        due.is("NONE", BurntLetters.NONE, NAMED.get("NONE"));
        due.is("UNKNOWN", BurntLetters.UNKNOWN, NAMED.get("UNKNOWN"));
        due.is("OUTSIDE", BurntLetters.OUTSIDE, NAMED.get("OUTSIDE"));
        due.is("STATE", BurntLetters.STATE, NAMED.get("STATE"));
        due.is("FULL", BurntLetters.FULL, NAMED.get("FULL"));
    }

    private static void testsAreNamed(String readme) throws IOException {
        try (Stream<Path> files = Files.list(Path.of("src/test/java"))) {
            files.map(file -> file.getFileName().toString().replace(".java", ""))
                .forEach(name -> due.isTrue("README names " + name, readme.contains("`" + name + "`")));
        }
    }
}
