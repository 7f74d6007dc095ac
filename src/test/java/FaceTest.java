import java.lang.reflect.Constructor;
import java.lang.reflect.Field;
import java.lang.reflect.Method;
import java.lang.reflect.Modifier;
import java.nio.file.Files;
import java.nio.file.Path;
import java.util.Arrays;
import java.util.TreeSet;
import java.util.regex.Matcher;
import java.util.regex.Pattern;

/** The public face: no member more, none less; and the rules that can be seen from outside. */
public final class FaceTest {
    private static final String[] DUE = {
        "public static final int LosslessPixels.NONE",
        "public LosslessPixels()",
        "public int LosslessPixels.size(int,int) throws java.lang.IllegalArgumentException",
        "public int LosslessPixels.set(int,int,int) throws java.lang.IndexOutOfBoundsException",
        "public int LosslessPixels.pixel(int,int) throws java.lang.IndexOutOfBoundsException",
        "public int LosslessPixels.measure(int)",
        "public int LosslessPixels.feed(long,int)",
        "public int LosslessPixels.wipe()",
        "public int LosslessPixels.byteAt(int)",
        "public int LosslessPixels.flip(int) throws java.lang.IndexOutOfBoundsException",
        "public int LosslessPixels.read() throws java.lang.IllegalArgumentException",
        "public int LosslessPixels.write(boolean,boolean,int,int) throws "
                + "java.lang.IllegalArgumentException,java.lang.IllegalStateException",
        "public int LosslessPixels.had(int)",
    };

    public static void main(String[] args) throws Exception {
        Class<?> face = LosslessPixels.class;
        Check.same("the class", "public final class LosslessPixels", face.toGenericString());
        Check.same("NONE", -1, LosslessPixels.NONE);
        TreeSet<String> seen = new TreeSet<>();
        TreeSet<String> names = new TreeSet<>();
        for (Field field : face.getDeclaredFields()) {
            note(seen, field.getModifiers(), field.toString());
        }
        for (Constructor<?> constructor : face.getDeclaredConstructors()) {
            note(seen, constructor.getModifiers(), constructor.toString());
        }
        for (Method method : face.getDeclaredMethods()) {
            note(seen, method.getModifiers(), method.toString());
            if (Modifier.isPublic(method.getModifiers())) {
                names.add(method.getName());
            }
        }
        Check.same("the face", new TreeSet<>(Arrays.asList(DUE)).toString(), seen.toString());
        classesInside(face, names);
        words();
        Check.end();
    }

    /** Notes a member that can be seen from outside; static fields are final (rule 5). */
    private static void note(TreeSet<String> seen, int modifiers, String text) {
        if (!Modifier.isPrivate(modifiers)) {
            seen.add(text);
        }
        if (Modifier.isStatic(modifiers) && !text.contains("(")) {
            Check.isTrue(text + " is final", Modifier.isFinal(modifiers));
        }
    }

    /** Rules 1, 5 and 11. */
    private static void classesInside(Class<?> face, TreeSet<String> publicNames) {
        Check.isTrue("some twelve classes at most", face.getDeclaredClasses().length <= 13);
        methods(face, publicNames);
        for (Class<?> inside : face.getDeclaredClasses()) {
            int modifiers = inside.getModifiers();
            Check.isTrue(inside + " is not public",
                    !Modifier.isPublic(modifiers) && !Modifier.isProtected(modifiers));
            methods(inside, publicNames);
            for (Field field : inside.getDeclaredFields()) {
                note(new TreeSet<>(), field.getModifiers(), field.toString());
            }
        }
    }

    private static void methods(Class<?> of, TreeSet<String> publicNames) {
        for (Method method : of.getDeclaredMethods()) {
            Check.isTrue(method + " has a name of its own", !Modifier.isPrivate(method.getModifiers())
                    || !publicNames.contains(method.getName()));
            Check.isTrue(method + " has seven parameters at most", method.getParameterCount() <= 7);
        }
    }

    /** Rules 2, 4, 5, 6 and 13: nothing of the library but what is listed, no word ruled out. */
    private static void words() throws Exception {
        String source = Files.readString(Path.of("src/main/java/LosslessPixels.java"))
                .replaceAll("(?s)/\\*.*?\\*/", " ").replaceAll("//[^\n]*", " ")
                .replaceAll("\"[^\"]*\"", "text");
        none("imports", source, "\\bimport (?!java\\.util\\.(Arrays|ArrayList|List|Iterator"
                + "|NoSuchElementException);)[^;]*;");
        none("calls", source, "\\b(System\\.(?!arraycopy\\b)\\w+"
                + "|Arrays\\.(?!(fill|copyOf|copyOfRange)\\b)\\w+|\\w+Exact\\b|Thread\\b|Runtime\\b)");
        none("words", source, "\\b(package|finally|synchronized|assert|volatile|native|getMessage"
                + "|hashCode|getClass)\\b|\\bstatic\\s*\\{|::");
        none("lambdas", source.replaceAll("\\b(case [^;{}]*?|default\\s*)->", " "), "->");
    }

    private static void none(String what, String source, String ruledOut) {
        Matcher found = Pattern.compile(ruledOut).matcher(source);
        Check.same(what + " that are ruled out", "", found.find() ? found.group() : "");
    }
}
