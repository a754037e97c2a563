import java.io.IOException;
import java.lang.reflect.Field;
import java.lang.reflect.Method;
import java.lang.reflect.Modifier;
import java.nio.file.Files;
import java.nio.file.Path;
import java.util.Arrays;
import java.util.Set;
import java.util.TreeSet;
import java.util.regex.Pattern;

/** The document's face and nothing beside it, and the rules of LANGUAGE.md that can be seen from outside. */
public final class FaceTest {
    private static final Check check = new Check("FaceTest");
    private static final String[] FACE = {
        "int feed(int,int,int,int,int)", "int make(int,int,boolean,int)", "int file(int)", "boolean must(int,int)",
        "boolean machine(int,int,int)", "boolean reader(int,int)", "int turner(int,int,int,int,int)",
        "boolean year(int)", "int bends(int,int)", "int know(int)", "int record(int,int,int)", "int turn(int,int)",
        "int kept(int,int)", "int road(int,int)", "int step(int)", "int last(int,boolean)", "int plan(int)",
        "int goal(int,int)", "int look(int,int)", "int count(int)"};
    private static final String[] FORBIDDEN = {"throw", "throws", "try", "catch", "synchronized", "assert",
        "->", "::", "Exact", "hashCode", "toString", "System\\.(?!arraycopy)", "java\\.(?!util\\.Arrays;)"};

    public static void main(String[] args) throws IOException {
        faceIsTheDocuments();
        restIsPrivate();
        sourceKeepsTheRules();
        loopsShowTheirEnds();
        check.end();
    }

    private static String signature(Method method) {
        StringBuilder text = new StringBuilder(method.getReturnType().getName());
        text.append(' ').append(method.getName()).append('(');
        for (int i = 0; i < method.getParameterCount(); i++) {
            text.append(i == 0 ? "" : ",").append(method.getParameterTypes()[i].getName());
        }
        return text.append(')').toString();
    }

    private static void faceIsTheDocuments() {
        Set<String> seen = new TreeSet<>();
        for (Method method : FileHouse.class.getDeclaredMethods()) {
            if (Modifier.isPublic(method.getModifiers())) {
                seen.add(signature(method));
                check.is(method.getName() + " is not static", Modifier.isStatic(method.getModifiers()), false);
            }
        }
        check.is("the face is " + seen, seen.equals(new TreeSet<>(Arrays.asList(FACE))), true);
        check.is("final", Modifier.isFinal(FileHouse.class.getModifiers()), true);
        check.is("one constructor", FileHouse.class.getDeclaredConstructors().length, 1);
        check.is("a public one", FileHouse.class.getConstructors().length, 1);
        check.is("one public field", FileHouse.class.getFields().length, 1);
    }

    private static void restIsPrivate() {
        Set<String> publicNames = new TreeSet<>();
        for (String method : FACE) {
            publicNames.add(method.substring(method.indexOf(' ') + 1, method.indexOf('(')));
        }
        for (Method method : FileHouse.class.getDeclaredMethods()) {
            int modifiers = method.getModifiers();
            check.is(method + " is public or private",
                    Modifier.isPublic(modifiers) || Modifier.isPrivate(modifiers), true);
            check.is(method + " has its own name",
                    Modifier.isPrivate(modifiers) && publicNames.contains(method.getName()), false);
            check.is(method + " has few parameters", method.getParameterCount() <= 7, true);
        }
        for (Field field : FileHouse.class.getDeclaredFields()) {
            int modifiers = field.getModifiers();
            check.is(field + " is private",
                    Modifier.isPrivate(modifiers) || field.getName().equals("NONE"), true);
            check.is(field + " is no static state",
                    Modifier.isStatic(modifiers) && !Modifier.isFinal(modifiers), false);
        }
        Class<?>[] inside = FileHouse.class.getDeclaredClasses();
        check.is("at most twelve classes", inside.length + 1 <= 12, true);
        for (Class<?> one : inside) {
            check.is(one + " is static", Modifier.isStatic(one.getModifiers()), true);
            for (Method method : one.getDeclaredMethods()) {
                check.is(method + " has its own name", publicNames.contains(method.getName()), false);
            }
        }
    }

    private static String code() throws IOException {
        String source = Files.readString(Path.of("src/main/java/FileHouse.java"));
        return source.replaceAll("(?s)/\\*.*?\\*/", "").replaceAll("//[^\n]*", "");
    }

    private static void sourceKeepsTheRules() throws IOException {
        String code = code();
        for (String word : FORBIDDEN) {
            String pattern = Character.isLetter(word.charAt(0)) ? "\\b" + word : word;
            if (word.matches("[a-z]+")) {
                pattern += "\\b";
            }
            check.is("the source has " + word, Pattern.compile(pattern).matcher(code).find(), false);
        }
    }

    /** Rule 9: each loop counts by a fixed step against a bound, and says so in its own line. */
    private static void loopsShowTheirEnds() throws IOException {
        Pattern counted = Pattern.compile(
                "for \\(int (\\w+) = [^;]+; \\1 (<|<=|>=) [^;]+; \\1(\\+\\+| -= \\d+)\\) \\{");
        for (String line : code().split("\n")) {
            String loop = line.trim();
            if (loop.startsWith("for ")) {
                check.is(loop + " shows its end", counted.matcher(loop).matches(), true);
            }
            check.is(loop + " is a loop of another kind", loop.matches(".*\\b(while|do)\\b.*"), false);
        }
    }
}
