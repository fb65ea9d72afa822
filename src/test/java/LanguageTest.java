import java.io.IOException;
import java.lang.reflect.Field;
import java.lang.reflect.Method;
import java.lang.reflect.Modifier;
import java.nio.file.Files;
import java.nio.file.Path;
import java.util.ArrayList;
import java.util.Arrays;
import java.util.List;
import java.util.TreeSet;
import java.util.regex.Matcher;
import java.util.regex.Pattern;

/** The face of the class, held against that of the document, and what LANGUAGE.md rules of the file as a text. */
public final class LanguageTest {
    private static final Report REPORT = new Report();
    /** The document's lines of calls, as they stand there. */
    private static final String FACE = """
            public int group(int m, int n) throws IllegalArgumentException;
            public int add(int one, int other, boolean isSum) throws IndexOutOfBoundsException;
            public int set(long elements) throws IllegalArgumentException, IllegalStateException;
            public int combine(int how, int one, int other) throws IndexOutOfBoundsException, IllegalArgumentException, IllegalStateException;
            public int move(int set, int times, int element) throws IndexOutOfBoundsException, IllegalArgumentException, IllegalStateException;
            public long elements(int set) throws IndexOutOfBoundsException;
            public int ways(int one, int other, int element) throws IndexOutOfBoundsException;
            public long popular(int one, int other, int least) throws IndexOutOfBoundsException, IllegalArgumentException;
            public int energy(int one, int other) throws IndexOutOfBoundsException;
            public int energyAnew(int one, int other) throws IndexOutOfBoundsException;
            public long stabilizer(int set) throws IndexOutOfBoundsException;
            public int excess(int one, int other) throws IndexOutOfBoundsException;
            public int slack(int one, int other, int third) throws IndexOutOfBoundsException;
            public long cover(int set, int by) throws IndexOutOfBoundsException;
            public long sums(int set, int many) throws IndexOutOfBoundsException, IllegalArgumentException;
            public int order(int set) throws IndexOutOfBoundsException;
            public long essential(int set) throws IndexOutOfBoundsException;
            public int image(int set, int other, int order, int element) throws IndexOutOfBoundsException, IllegalArgumentException, IllegalStateException;
            public int maps(int set, int other, int order) throws IndexOutOfBoundsException, IllegalArgumentException, IllegalStateException;
            public boolean keeps(int set, int rule) throws IndexOutOfBoundsException;
            public long greatest(int set, int rule) throws IndexOutOfBoundsException, IllegalStateException;
            public long greatestAnew(int set, int rule) throws IndexOutOfBoundsException, IllegalStateException;
            public long wins(int rule, long elements) throws IndexOutOfBoundsException, IllegalArgumentException, IllegalStateException;
            public int put(int element) throws IndexOutOfBoundsException, IllegalStateException;
            public int wipe();
            public int zero();
            public int constant() throws IllegalStateException;
            public void root(int p, int w) throws IllegalArgumentException, IllegalStateException;
            public int transform(int set, int k) throws IndexOutOfBoundsException, IllegalArgumentException, IllegalStateException;
            public int waysAnew(int one, int other, int element) throws IndexOutOfBoundsException, IllegalStateException;
            public int of(int what) throws IllegalArgumentException;
            """;
    /** The document's constants, with what they are. */
    private static final String CONSTANTS = """
            NONE = -1
            SUM = 0, DIFFERENCE = 1, RESTRICTED = 2, MEET = 3, JOIN = 4, WITHOUT = 5
            FREE = 0, SIDON = 1, NO_STEPS = 2, APART = 3
            """;
    private static final String HEADINGS = "groups, sets; ways, small sums; orders, maps; rules, games; rows; transforms";

    public static void main(String[] args) throws IOException, IllegalAccessException {
        String source = Files.readString(Path.of(args[0]));
        calls();
        constants();
        constructor();
        order(source);
        due("signs above 127", 0, found("[^\\x00-\\x7f]", source).size());
        due("no package line, no import", 0, found("(?m)^(package|import)\\b", source).size());
        REPORT.end("LanguageTest");
    }

    private static void due(String what, Object want, Object got) {
        REPORT.due(what, want, () -> got);
    }

    private static void calls() {
        TreeSet<String> made = new TreeSet<>();
        for (Method method : Sumsetry.class.getDeclaredMethods()) {
            if (!Modifier.isPrivate(method.getModifiers())) {
                made.add(method.toString().replaceAll("Sumsetry\\.|java\\.lang\\.", ""));
            }
        }
        TreeSet<String> told = new TreeSet<>();
        for (String line : FACE.split(";\n")) {
            String types = line.replaceAll("(int|long|boolean) \\w+(?=[,)])", "$1");
            told.add(types.replaceAll(", ", ",").trim());
        }
        due("the face's calls", 31, told.size());
        due("the class's calls", told, made);
    }

    private static void constants() throws IllegalAccessException {
        TreeSet<String> made = new TreeSet<>();
        for (Field field : Sumsetry.class.getDeclaredFields()) {
            if (!Modifier.isPrivate(field.getModifiers())) {
                due(field.getName() + " is a constant", "public static final int",
                        Modifier.toString(field.getModifiers()) + " " + field.getType());
                made.add(field.getName() + " = " + field.getInt(null));
            }
        }
        due("the face's constants", new TreeSet<>(Arrays.asList(CONSTANTS.trim().split(", |\n"))), made);
    }

    private static void constructor() {
        due("the class", "public final", Modifier.toString(Sumsetry.class.getModifiers()));
        due("its constructors", "[public Sumsetry()]",
                Arrays.toString(Sumsetry.class.getDeclaredConstructors()));
        due("above it", Object.class, Sumsetry.class.getSuperclass());
        due("it implements", 0, Sumsetry.class.getInterfaces().length);
    }

    /** The calls stand in the document's order, under its headings. */
    private static void order(String source) {
        List<String> told = found("(?<=public (int|long|boolean|void) )\\w+(?=\\()", FACE);
        due("the calls told", 31, told.size());
        due("the calls in their order", told, found("(?<=\n    public (int|long|boolean|void) )\\w+(?=\\()", source));
        String headings = String.join("; ", found("(?<=// ---- ).*", source));
        due("the headings", true, headings.startsWith(HEADINGS));
    }

    private static List<String> found(String pattern, String text) {
        Matcher matcher = Pattern.compile(pattern).matcher(text);
        List<String> found = new ArrayList<>();
        while (matcher.find()) {
            found.add(matcher.group());
        }
        return found;
    }
}
