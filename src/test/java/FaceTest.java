import java.io.IOException;
import java.lang.reflect.Constructor;
import java.lang.reflect.Field;
import java.lang.reflect.Member;
import java.lang.reflect.Method;
import java.lang.reflect.Modifier;
import java.nio.file.Files;
import java.nio.file.Path;
import java.util.Arrays;
import java.util.Set;
import java.util.TreeSet;
import java.util.regex.Matcher;
import java.util.regex.Pattern;

/** The face that the document tells and no other, and the words that the language leaves out. */
public final class FaceTest {
    private static final Set<String> FACE = new TreeSet<>(Arrays.asList(
        "int open(int, int, int)", "int put(int, int, int)", "int resize(int, int)", "int submit(int)",
        "int tick()", "int run(int)", "int state(int)", "int get(int, int)", "int cancel(int)",
        "int raise(int, int)", "int close(int)", "int pack()", "int word(int)", "int job(int, int)",
        "int count(int)", "SortKernel(int, int, int)", "OK = 0", "BADJOB = -1", "BADINDEX = -2",
        "BADSTATE = -3", "BADARG = -4", "NOSLOT = -5", "NOROOM = -6"));
    private static final Pattern LEFT_OUT = Pattern.compile(
        "\\b(throw|throws|try|catch|synchronized|assert|import|package|protected|volatile|native)\\b"
        + "|->|::|\\bnew \\w+(<\\w*>)?\\([^)]*\\) \\{|\\w+Exact\\b");

    private static int wrong = 0;

    private static void tell(String fault) {
        wrong++;
        System.out.println(fault);
    }

    private static String types(Class<?>[] types) {
        StringBuilder text = new StringBuilder();
        for (Class<?> type : types) {
            text.append(text.length() == 0 ? "" : ", ").append(type.getSimpleName());
        }
        return "(" + text + ")";
    }

    private static void see(Set<String> seen, Member member, String text) {
        if (Modifier.isPublic(member.getModifiers())) {
            seen.add(text);
        } else if (!Modifier.isPrivate(member.getModifiers()) && !member.isSynthetic()) {
            tell("neither public nor private: " + text);
        }
    }

    private static void checkFace() throws IllegalAccessException {
        Set<String> seen = new TreeSet<>();
        for (Method m : SortKernel.class.getDeclaredMethods()) {
            see(seen, m, m.getReturnType() + " " + m.getName() + types(m.getParameterTypes()));
        }
        for (Constructor<?> c : SortKernel.class.getDeclaredConstructors()) {
            see(seen, c, "SortKernel" + types(c.getParameterTypes()));
        }
        for (Field f : SortKernel.class.getDeclaredFields()) {
            boolean constant = Modifier.isPublic(f.getModifiers()) && Modifier.isStatic(f.getModifiers())
                && Modifier.isFinal(f.getModifiers()) && f.getType() == int.class;
            see(seen, f, constant ? f.getName() + " = " + f.getInt(null) : f.getName());
        }
        if (!seen.equals(FACE)) {
            tell("the face is " + seen + ", due is " + FACE);
        }
        int modifiers = SortKernel.class.getModifiers();
        if (!Modifier.isPublic(modifiers) || !Modifier.isFinal(modifiers)) {
            tell("the class is not public and final");
        }
    }

    private static void checkNested() {
        Set<String> names = new TreeSet<>();
        for (Method m : SortKernel.class.getMethods()) {
            names.add(m.getName());
        }
        Class<?>[] nested = SortKernel.class.getDeclaredClasses();
        if (nested.length > 11) {
            tell("more than twelve classes");
        }
        for (Class<?> c : nested) {
            if (!Modifier.isStatic(c.getModifiers()) || Modifier.isPublic(c.getModifiers())) {
                tell("not static, or public: " + c);
            }
            for (Method m : c.getDeclaredMethods()) {
                if (names.contains(m.getName())) {
                    tell("bears a public method's name: " + m);
                }
            }
            for (Field f : c.getDeclaredFields()) {
                if (Modifier.isStatic(f.getModifiers())) {
                    tell("static: " + f);
                }
            }
        }
    }

    private static void checkWords() throws IOException {
        String text = Files.readString(Path.of("src/main/java/SortKernel.java"));
        String code = text.replaceAll("(?s)/\\*.*?\\*/", "").replaceAll("//[^\n]*", "");
        Matcher matcher = LEFT_OUT.matcher(code);
        while (matcher.find()) {
            tell("the language leaves out: " + matcher.group());
        }
    }

    public static void main(String[] args) throws IllegalAccessException, IOException {
        checkFace();
        checkNested();
        checkWords();
        System.out.println(wrong == 0 ? "the face is as due" : wrong + " faults of the face");
        if (wrong != 0) {
            System.exit(1);
        }
    }
}
