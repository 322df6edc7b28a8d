import java.io.IOException;
import java.lang.reflect.Constructor;
import java.lang.reflect.Field;
import java.lang.reflect.Method;
import java.lang.reflect.Modifier;
import java.nio.file.Files;
import java.nio.file.Path;
import java.util.Arrays;
import java.util.List;
import java.util.Set;
import java.util.TreeSet;
import java.util.regex.Matcher;
import java.util.regex.Pattern;
import java.util.stream.Collectors;

/** The rules of LANGUAGE.md that can be seen from the class's face and from its text. */
public final class LanguageTest {
    private static final String FACE = "int island(int) int clerk(int) int vines(int,int) int hill(int,int,int) int type(int)"
            + " int clear() int read() int day(int) int putBack(int,int) int undo() int of(int,int) int has(int)"
            + " int high(int,int) int goes(int) int lost(int) int chain(int) int plan(int,int) int askFirst(int,int)"
            + " int calm(int,int) int seen(int,int,int,int) int which(int) int next(int) int mark(int,int,int)"
            + " int forget(int) int kinds() int look() int waiting(int) int chance(int,int,int) int years(int,int)"
            + " long part(int) int image(int) int from(int) int status(int) int count(int) long digest()";
    private static final List<String> FORBIDDEN = List.of("throw", "throws", "try", "catch", "synchronized", "assert",
            "instanceof", "hashCode", "toString", "System\\.(?!arraycopy)", "Exact\\(", "->", "::", "package ",
            "static \\{", "Integer\\.", "Long\\.", "double", "float", "import (?!java\\.util\\.Arrays;)");
    private static int wrong = 0;

    private static void due(String what, Object got, Object want) {
        if (!got.equals(want)) {
            wrong++;
            System.out.println(what + ": " + got + ", due is " + want);
        }
    }

    private static void rule1() {
        due("the class is public and final", SlateHills.class.getModifiers(), Modifier.PUBLIC | Modifier.FINAL);
        Set<String> publicOnes = new TreeSet<>();
        Set<String> publicNames = new TreeSet<>();
        for (Method m : SlateHills.class.getDeclaredMethods()) {
            if (Modifier.isPublic(m.getModifiers())) {
                publicNames.add(m.getName());
                publicOnes.add(m.getReturnType() + " " + m.getName() + Arrays.stream(m.getParameterTypes())
                        .map(Class::getName).collect(Collectors.joining(",", "(", ")")));
            } else {
                due(m + " is private", Modifier.isPrivate(m.getModifiers()), true);
            }
        }
        due("the public methods", publicOnes, new TreeSet<>(List.of(FACE.split("(?<=\\)) "))));
        Set<String> constants = new TreeSet<>();
        for (Field f : SlateHills.class.getDeclaredFields()) {
            if (Modifier.isPublic(f.getModifiers())) {
                constants.add(f.getName());
            } else {
                due(f + " is private", Modifier.isPrivate(f.getModifiers()), true);
            }
        }
        due("the public fields", constants, new TreeSet<>(Set.of("NONE", "BAD", "NO", "FULL")));
        for (Constructor<?> c : SlateHills.class.getDeclaredConstructors()) {
            due("the constructor", c.toString(), "public SlateHills()");
        }
        for (Class<?> inner : SlateHills.class.getDeclaredClasses()) {
            due(inner + " is static", Modifier.isStatic(inner.getModifiers()), true);
            for (Method m : inner.getDeclaredMethods()) {
                due(m + " bears a name of the face", publicNames.contains(m.getName()), false);
            }
        }
        for (Method m : SlateHills.class.getDeclaredMethods()) {
            due(m + " bears a name of the face",
                    Modifier.isPrivate(m.getModifiers()) && publicNames.contains(m.getName()), false);
        }
    }

    private static void staticFieldsAndParameters() {
        List<Class<?>> all = new java.util.ArrayList<>(List.of(SlateHills.class.getDeclaredClasses()));
        due("at most twelve classes", all.size() <= 11, true);
        all.add(SlateHills.class);
        for (Class<?> c : all) {
            int fields = 0;
            for (Field f : c.getDeclaredFields()) {
                boolean isStatic = Modifier.isStatic(f.getModifiers());
                due(f + " is final", !isStatic || Modifier.isFinal(f.getModifiers()), true);
                fields += isStatic ? 0 : 1;
            }
            due(c + " has at most twenty fields", fields <= 20, true);
            for (Method m : c.getDeclaredMethods()) {
                due(m + " has at most seven parameters", m.getParameterCount() <= 7, true);
            }
        }
    }

    private static void text() throws IOException {
        String source = Files.readString(Path.of("src/main/java/SlateHills.java"));
        due("signs are 10 and 32 to 126", source.chars().allMatch(c -> c == 10 || c >= 32 && c <= 126), true);
        String bare = source.replaceAll("(?s)/\\*.*?\\*/", "").replaceAll("//[^\n]*", "");
        for (String word : FORBIDDEN) {
            String edge = Character.isLetter(word.charAt(0)) ? "\\b" : "";
            Matcher m = Pattern.compile(edge + word + (word.matches("[a-zA-Z]+") ? "\\b" : "")).matcher(bare);
            due("'" + word + "' stands in the class", m.find(), false);
        }
        // a method starts at 4 or 8 blanks and ends at the brace under its first sign
        int start = 0;
        String[] lines = source.split("\n");
        for (int n = 0; n < lines.length; n++) {
            if (lines[n].matches("( {4}| {8})[a-z].*\\) \\{")) {
                start = n;
            } else if (lines[n].matches("( {4}| {8})\\}")) {
                due("the method at line " + (start + 1) + " has at most sixty lines", n - start <= 60, true);
            }
        }
    }

    public static void main(String[] args) throws IOException {
        rule1();
        staticFieldsAndParameters();
        text();
        System.out.println(wrong == 0 ? "the rules that can be seen are kept" : wrong + " rules are broken");
        if (wrong != 0) {
            System.exit(1);
        }
    }
}
