import java.io.IOException;
import java.lang.reflect.Constructor;
import java.lang.reflect.Field;
import java.lang.reflect.Method;
import java.lang.reflect.Modifier;
import java.nio.file.Files;
import java.nio.file.Path;
import java.util.ArrayList;
import java.util.Arrays;
import java.util.List;
import java.util.TreeSet;
import java.util.regex.Matcher;
import java.util.regex.Pattern;

/** What of LANGUAGE.md can be seen in the text of the class and in its face. */
public final class LanguageTest {
    private static final Report REPORT = new Report();
    private static final List<String> FACE = List.of("int group(int,int)", "int add(int,int,boolean)",
            "int set(long)", "int combine(int,int,int)", "int move(int,int,int)", "long elements(int)",
            "int ways(int,int,int)", "long popular(int,int,int)", "int energy(int,int)", "int energyAnew(int,int)",
            "long stabilizer(int)", "int excess(int,int)", "int slack(int,int,int)", "long cover(int,int)",
            "long sums(int,int)", "int order(int)", "long essential(int)", "int image(int,int,int,int)",
            "int maps(int,int,int)", "boolean keeps(int,int)", "long greatest(int,int)",
            "long greatestAnew(int,int)", "long wins(int,long)", "int put(int)", "int wipe()", "int zero()",
            "int constant()", "void root(int,int)", "int transform(int,int)", "int waysAnew(int,int,int)",
            "int of(int)");
    private static final List<String> CONSTANTS = List.of("NONE", "SUM", "DIFFERENCE", "RESTRICTED", "MEET", "JOIN",
            "WITHOUT", "FREE", "SIDON", "NO_STEPS", "APART");
    /** Words that the rules leave no use for in this class. */
    private static final List<String> RULED_OUT = List.of("import", "package", "catch", "try", "finally",
            "synchronized", "assert", "var", "double", "float", "System", "Thread", "Random", "protected", "native",
            "transient", "volatile", "strictfp", "instanceof", "getClass", "hashCode", "toString", "Object",
            "Throwable", "Error");

    public static void main(String[] args) throws IOException {
        String source = Files.readString(Path.of(args[0]));
        String code = withoutTexts(source);
        face();
        privateNames();
        for (String word : RULED_OUT) {
            due("the word " + word, 0, count("\\b" + word + "\\b", code));
        }
        due("names that end in Exact", 0, count("\\w+Exact\\b", code));
        due("lambdas and method references", 0, count("->|::", code));
        due("signs above 127", 0, count("[^\\x00-\\x7f]", source));
        due("loops without a counter", 0, count("\\b(while|do)\\b", code));
        due("places where an array is read or written", 4, count("\\w\\[[^\\]]", code.replaceAll("new \\w+\\[[^\\]]*\\]", "")));
        due("places that divide by what is no number", 2, count(" [/%] [^0-9]", code));
        methods(code);
        REPORT.end("LanguageTest");
    }

    private static void due(String what, Object want, Object got) {
        REPORT.due(what, want, () -> got);
    }

    private static void face() {
        TreeSet<String> methods = new TreeSet<>();
        for (Method method : Sumsetry.class.getDeclaredMethods()) {
            if (!Modifier.isPrivate(method.getModifiers())) {
                String parameters = Arrays.toString(method.getParameterTypes()).replaceAll("[\\[\\] ]", "");
                methods.add(method.getReturnType() + " " + method.getName() + "(" + parameters + ")");
                due(method.getName() + " is public", Modifier.PUBLIC, method.getModifiers());
            }
        }
        due("the face's methods", new TreeSet<>(FACE), methods);
        TreeSet<String> constants = new TreeSet<>();
        for (Field field : Sumsetry.class.getDeclaredFields()) {
            if (!Modifier.isPrivate(field.getModifiers())) {
                constants.add(field.getName());
                due(field.getName() + " is a constant", Modifier.PUBLIC | Modifier.STATIC | Modifier.FINAL,
                        field.getModifiers());
            }
            if (Modifier.isStatic(field.getModifiers())) {
                due(field.getName() + " is final", true, Modifier.isFinal(field.getModifiers()));
            }
        }
        due("the face's constants", new TreeSet<>(CONSTANTS), constants);
        due("constructors", 1, Sumsetry.class.getDeclaredConstructors().length);
        for (Constructor<?> one : Sumsetry.class.getConstructors()) {
            due("its parameters", 0, one.getParameterCount());
        }
        due("public and final", Modifier.PUBLIC | Modifier.FINAL, Sumsetry.class.getModifiers());
    }

    private static void privateNames() {
        TreeSet<String> publicNames = new TreeSet<>();
        for (String one : FACE) {
            publicNames.add(one.replaceAll(".* |\\(.*", ""));
        }
        List<Class<?>> classes = new ArrayList<>(List.of(Sumsetry.class.getDeclaredClasses()));
        due("at most twelve classes", true, classes.size() < 12);
        for (Class<?> inside : classes) {
            due(inside + " is static", true, Modifier.isStatic(inside.getModifiers()));
            due(inside + " is not public", false, Modifier.isPublic(inside.getModifiers()));
            due(inside + " has at most twenty fields", true, inside.getDeclaredFields().length <= 20);
            for (Method method : inside.getDeclaredMethods()) {
                due("the name " + method.getName(), false, publicNames.contains(method.getName()));
            }
        }
        for (Method method : Sumsetry.class.getDeclaredMethods()) {
            if (Modifier.isPrivate(method.getModifiers())) {
                due("the name " + method.getName(), false, publicNames.contains(method.getName()));
            }
            due(method.getName() + " has at most seven parameters", true, method.getParameterCount() <= 7);
        }
    }

    /** A method ends at the first brace that stands as far in as its head. */
    private static void methods(String code) {
        String[] lines = code.split("\n");
        int heads = 0;
        for (int line = 0; line < lines.length; line++) {
            Matcher head = Pattern.compile("( {4}| {8})(?!return|throw|else|new)((public|private|static|final) )*"
                    + "[\\w\\[\\]]+ (\\w+)\\([^;=]*").matcher(lines[line]);
            if (head.matches()) {
                heads++;
                int end = line;
                while (end < lines.length && !lines[end].equals(head.group(1) + "}")) {
                    end++;
                }
                due("the lines of " + head.group(4) + " are at most sixty", true, end - line < 60);
            }
        }
        due("heads of methods found", true, heads > 80);
    }

    private static String withoutTexts(String source) {
        return source.replaceAll("(?s)/\\*.*?\\*/", "").replaceAll("//[^\n]*", "").replaceAll("\"[^\"]*\"", "T");
    }

    private static int count(String pattern, String text) {
        Matcher matcher = Pattern.compile(pattern).matcher(text);
        int found = 0;
        while (matcher.find()) {
            found++;
        }
        return found;
    }
}
