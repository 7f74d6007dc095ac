import java.lang.reflect.Constructor;
import java.lang.reflect.Field;
import java.lang.reflect.Method;
import java.lang.reflect.Modifier;
import java.nio.file.Files;
import java.nio.file.Path;
import java.util.Arrays;
import java.util.TreeSet;
import java.util.regex.Matcher;
import java.util.regex.Pattern;

/** The public face: no member more, none less; and the rules that can be seen from outside. */
public final class FaceTest {
    private static final String[] DUE = {
        "public static final int LosslessPixels.NONE",
        "public LosslessPixels()",
        "public int LosslessPixels.size(int,int) throws java.lang.IllegalArgumentException",
        "public int LosslessPixels.set(int,int,int) throws java.lang.IndexOutOfBoundsException",
        "public int LosslessPixels.pixel(int,int) throws java.lang.IndexOutOfBoundsException",
        "public int LosslessPixels.measure(int)",
        "public int LosslessPixels.feed(long,int)",
        "public int LosslessPixels.wipe()",
        "public int LosslessPixels.byteAt(int)",
        "public int LosslessPixels.flip(int) throws java.lang.IndexOutOfBoundsException",
        "public int LosslessPixels.read() throws java.lang.IllegalArgumentException",
        "public int LosslessPixels.write(boolean,boolean,int,int) throws "
                + "java.lang.IllegalArgumentException,java.lang.IllegalStateException",
        "public int LosslessPixels.had(int)",
    };

    public static void main(String[] args) throws Exception {
        Class<?> face = LosslessPixels.class;
        Check.same("the class", "public final class LosslessPixels", face.toGenericString());
        Check.same("NONE", -1, LosslessPixels.NONE);
        TreeSet<String> seen = new TreeSet<>();
        TreeSet<String> names = new TreeSet<>();
        for (Field field : face.getDeclaredFields()) {
            note(seen, field.getModifiers(), field.toString());
        }
        for (Constructor<?> constructor : face.getDeclaredConstructors()) {
            note(seen, constructor.getModifiers(), constructor.toString());
        }
        for (Method method : face.getDeclaredMethods()) {
            note(seen, method.getModifiers(), method.toString());
            if (Modifier.isPublic(method.getModifiers())) {
                names.add(method.getName());
            }
        }
        Check.same("the face", new TreeSet<>(Arrays.asList(DUE)).toString(), seen.toString());
        classesInside(face, names);
        imports();
        library();
        Check.end();
    }

    private static void note(TreeSet<String> seen, int modifiers, String text) {
        if (!Modifier.isPrivate(modifiers)) {
            seen.add(text);
        }
        if (Modifier.isStatic(modifiers) && !text.contains("(")) {
            Check.isTrue(text + " is final", Modifier.isFinal(modifiers));
        }
    }

    private static void classesInside(Class<?> face, TreeSet<String> publicNames) {
        Check.isTrue("some twelve classes at most", face.getDeclaredClasses().length < 12);
        for (Class<?> inside : face.getDeclaredClasses()) {
            int modifiers = inside.getModifiers();
            Check.isTrue(inside + " is static", Modifier.isStatic(modifiers));
            Check.isTrue(inside + " is not public", !Modifier.isPublic(modifiers));
            for (Method method : inside.getDeclaredMethods()) {
                Check.isTrue(method + " has a name of its own", !publicNames.contains(method.getName()));
                Check.isTrue(method + " has seven parameters at most", method.getParameterCount() < 8);
            }
            for (Field field : inside.getDeclaredFields()) {
                note(new TreeSet<>(), field.getModifiers(), field.toString());
            }
        }
        for (Method method : face.getDeclaredMethods()) {
            Check.isTrue(method + " has a name of its own",
                    Modifier.isPublic(method.getModifiers()) || !publicNames.contains(method.getName()));
        }
    }

    /** Of the library only what LANGUAGE.md lists; no try, no static block, none of other words. */
    private static void library() throws Exception {
        String source = Files.readString(Path.of("src/main/java/LosslessPixels.java"))
                .replaceAll("(?s)/\\*.*?\\*/", " ").replaceAll("//[^\n]*", " ")
                .replaceAll("\"[^\"]*\"", "text").replaceAll("import [^;]*;", " ");
        TreeSet<String> used = new TreeSet<>();
        Matcher calls = Pattern.compile("\\b(System|Arrays|Math|Integer|Long|String|Thread|Runtime"
                + "|Object|Class)\\b(\\.\\w+)?").matcher(source);
        while (calls.find()) {
            used.add(calls.group());
        }
        TreeSet<String> allowed = new TreeSet<>(Arrays.asList("System.arraycopy", "Arrays.fill",
                "Arrays.copyOf", "Arrays.copyOfRange", "Math.min", "Math.max", "Math.abs"));
        used.removeAll(allowed);
        Check.same("of the library", "[]", used.toString());
        Matcher words = Pattern.compile("\\b(try|catch|finally|synchronized|assert|native|volatile"
                + "|double|float|equals|hashCode|toString|getClass)\\b|static\\s*\\{").matcher(source);
        Check.isTrue("none of the words that are ruled out", !words.find());
    }

    private static void imports() throws Exception {
        for (String line : Files.readAllLines(Path.of("src/main/java/LosslessPixels.java"))) {
            Check.isTrue("allowed: " + line, !line.startsWith("import ")
                    || line.equals("import java.util.Arrays;"));
            Check.isTrue("no package line: " + line, !line.startsWith("package "));
            Check.isTrue("no lambda, no method reference: " + line,
                    !line.contains("->") && !line.contains("::"));
        }
    }
}
