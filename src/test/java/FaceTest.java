import java.io.IOException;
import java.lang.reflect.Constructor;
import java.lang.reflect.Field;
import java.lang.reflect.Method;
import java.lang.reflect.Modifier;
import java.nio.file.Files;
import java.nio.file.Path;
import java.util.Set;
import java.util.TreeSet;
import java.util.regex.Matcher;
import java.util.regex.Pattern;

/** The document's face, and those rules of LANGUAGE.md that can be seen from outside. */
public final class FaceTest {
    private static final Due DUE = new Due("FaceTest");
    private static final Set<String> FACE = Set.of(
            "int node(int,long,int,int)", "int test(int,long,long)", "int about(int,int)", "int make(int)",
            "int mutant(int,int)", "int run(int,int)", "int order(int,int)", "int distance(int,int)",
            "int change(int,long)", "boolean sample(long,int)", "int sampled(int)", "int score(int,int)",
            "int miss(int)");

    public static void main(String[] args) throws IOException {
        publicMembers();
        namesOfOtherMethods();
        forbiddenWords();
        allocationsInConstructorsOnly();
        DUE.end();
    }

    private static String signature(Method m) {
        StringBuilder text = new StringBuilder(m.getReturnType().getName()).append(' ').append(m.getName()).append('(');
        for (int i = 0; i < m.getParameterCount(); i++) {
            text.append(i == 0 ? "" : ",").append(m.getParameterTypes()[i].getName());
        }
        return text.append(')').toString();
    }

    private static void publicMembers() {
        Class<?> face = MutantRows.class;
        DUE.is("public and final", face.getModifiers(), Modifier.PUBLIC | Modifier.FINAL);
        Set<String> found = new TreeSet<>();
        for (Method m : face.getDeclaredMethods()) {
            if (!Modifier.isPrivate(m.getModifiers())) {
                DUE.is(m.getName() + " is public", m.getModifiers(), Modifier.PUBLIC);
                found.add(signature(m));
            }
        }
        DUE.is("the face is " + found, found.equals(FACE), true);
        Constructor<?>[] constructors = face.getDeclaredConstructors();
        DUE.is("one constructor", constructors.length, 1);
        DUE.is("without parameters", constructors[0].getParameterCount(), 0);
        DUE.is("that is public", constructors[0].getModifiers(), Modifier.PUBLIC);
        for (Field f : face.getDeclaredFields()) {
            boolean constant = f.getName().equals("NONE");
            DUE.is(f.getName() + " is private", Modifier.isPrivate(f.getModifiers()), !constant);
            DUE.is(f.getName() + " is final", Modifier.isFinal(f.getModifiers()), true);
        }
    }

    private static void namesOfOtherMethods() {
        Set<String> names = new TreeSet<>();
        for (String f : FACE) {
            names.add(f.substring(f.indexOf(' ') + 1, f.indexOf('(')));
        }
        for (Method m : MutantRows.class.getDeclaredMethods()) {
            DUE.is(m.getName() + " is private or of the face",
                    Modifier.isPrivate(m.getModifiers()) && names.contains(m.getName()), false);
        }
        for (Class<?> inside : MutantRows.class.getDeclaredClasses()) {
            DUE.is(inside + " is static", Modifier.isStatic(inside.getModifiers()), true);
            DUE.is(inside + " isn't public", Modifier.isPublic(inside.getModifiers()), false);
            DUE.is(inside + " has some twenty fields at most", inside.getDeclaredFields().length <= 20, true);
            for (Method m : inside.getDeclaredMethods()) {
                DUE.is(m + " bears a name of the face", names.contains(m.getName()), false);
                DUE.is(m + " has at most seven parameters", m.getParameterCount() <= 7, true);
            }
        }
    }

    private static String source() throws IOException {
        String text = Files.readString(Path.of("src/main/java/MutantRows.java"));
        return text.replaceAll("(?s)/\\*.*?\\*/", " ").replaceAll("//[^\n]*", " ");
    }

    private static void forbiddenWords() throws IOException {
        String words = "throw|throws|try|catch|synchronized|assert|package|import|Object|System";
        Matcher m = Pattern.compile("\\b(" + words + ")\\b|->|::")
                .matcher(source());
        while (m.find()) {
            DUE.is("forbidden: " + m.group(), true, false);
        }
    }

    /** Calls make nothing, so that any run of calls fits in its room: `new` stands in assignments of constructors. */
    private static void allocationsInConstructorsOnly() throws IOException {
        String method = "";
        Pattern head = Pattern.compile("^ +(?:public |private |static )*(?:(\\w+(?:\\[\\])?) )?(\\w+)\\([^;]*\\) \\{$");
        for (String line : source().split("\n")) {
            Matcher m = head.matcher(line);
            if (m.find()) {
                method = m.group(1) == null ? m.group(2) : "method " + m.group(2);
            }
            if (line.contains("new ")) {
                DUE.is("made in " + method + ": " + line.trim(), method.startsWith("method "), false);
            }
        }
    }
}
