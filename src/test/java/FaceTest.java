import java.io.IOException;
import java.lang.reflect.Constructor;
import java.lang.reflect.Field;
import java.lang.reflect.Method;
import java.lang.reflect.Modifier;
import java.nio.file.Files;
import java.nio.file.Path;
import java.util.TreeSet;
import java.util.regex.Matcher;
import java.util.regex.Pattern;

/** The face is the document's and no more, and the source keeps to the rules that can be seen in it. */
final class FaceTest {
    private static final String FACE = "back(1) copy(3) draw(2) end(1) fault(0) feed(1) keep(1) last(2) letter(2) "
            + "meet(3) meeting(2) node(2) note(2) refusal(1) rule(1) send(5) set(2) soonest(1) text(0) tick(1) why(4)";
    private static final int LONGEST_METHOD = 60;
    private static final Check check = new Check();

    public static void main(String[] args) throws IOException {
        face();
        nestedNames();
        source();
        check.finish();
    }

    private static void face() {
        Class<?> c = SprayedLetters.class;
        check.due("public final", Modifier.isPublic(c.getModifiers()) && Modifier.isFinal(c.getModifiers()));
        TreeSet<String> names = new TreeSet<>();
        for (Method m : c.getDeclaredMethods()) {
            if (!Modifier.isPrivate(m.getModifiers())) {
                names.add(m.getName() + "(" + m.getParameterCount() + ")");
                check.due(m.getName() + " is public, of ints", Modifier.isPublic(m.getModifiers()) && isOfInts(m));
            } else {
                check.due("private " + m.getName(), !(" " + FACE).contains(" " + m.getName() + "("));
            }
        }
        check.due("methods " + names, FACE.equals(String.join(" ", names)));
        Constructor<?>[] constructors = c.getDeclaredConstructors();
        check.due("constructors", constructors.length, 1);
        check.due("constructor", Modifier.isPublic(constructors[0].getModifiers())
                && constructors[0].getParameterCount() == 0);
        TreeSet<String> constants = new TreeSet<>();
        for (Field f : c.getDeclaredFields()) {
            if (!Modifier.isPrivate(f.getModifiers())) {
                constants.add(f.getName());
            }
            check.due("static is final: " + f, !Modifier.isStatic(f.getModifiers()) || Modifier.isFinal(f.getModifiers()));
        }
        check.due("constants " + constants, "[BAD, FULL, NONE, STATE]".equals(constants.toString()));
    }

    private static boolean isOfInts(Method m) {
        boolean all = m.getReturnType() == int.class;
        for (Class<?> type : m.getParameterTypes()) {
            all &= type == int.class;
        }
        return all;
    }

    private static void nestedNames() {
        for (Class<?> inside : SprayedLetters.class.getDeclaredClasses()) {
            check.due("static: " + inside, Modifier.isStatic(inside.getModifiers()));
            int fields = 0;
            for (Field f : inside.getDeclaredFields()) {
                fields += Modifier.isStatic(f.getModifiers()) ? 0 : 1;
            }
            check.due("fields of " + inside + ": " + fields, fields <= 20);
            for (Method m : inside.getDeclaredMethods()) {
                check.due("name of " + m, !(" " + FACE).contains(" " + m.getName() + "("));
                check.due("parameters of " + m, m.getParameterCount() <= 7);
            }
        }
    }

    private static void source() throws IOException {
        String text = Files.readString(Path.of("src/main/java/SprayedLetters.java"));
        String code = text.replaceAll("(?s)/\\*.*?\\*/", "").replaceAll("//[^\n]*", "");
        Matcher forbidden = Pattern.compile("\\b(throw|throws|try|catch|synchronized|assert|import|package|protected|Exact|"
                + "System\\.(?!arraycopy)\\w+|Object|Thread|Random)\\b|->|::").matcher(code);
        while (forbidden.find()) {
            check.due("not of the language: " + forbidden.group(), false);
        }
        for (int i = 0; i < text.length(); i++) {
            if (text.charAt(i) > 126 || (text.charAt(i) < 32 && text.charAt(i) != '\n')) {
                check.due("a sign that is not plain at " + i, false);
            }
        }
        methodLengths(text.split("\n"));
    }

    /** A method begins and ends at an indentation of 4, or of 8 in a class inside. */
    private static void methodLengths(String[] lines) {
        for (int i = 0; i < lines.length; i++) {
            Matcher head = Pattern.compile("( {4}| {8})(?! )[^=;]*\\) \\{").matcher(lines[i]);
            if (!head.matches()) {
                continue;
            }
            int end = i;
            while (end < lines.length && !lines[end].equals(head.group(1) + "}")) {
                end++;
            }
            check.due("length of " + lines[i].trim(), end - i < LONGEST_METHOD);
        }
    }
}
