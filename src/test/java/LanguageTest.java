import java.lang.reflect.Field;
import java.lang.reflect.Method;
import java.lang.reflect.Modifier;
import java.nio.file.Files;
import java.nio.file.Path;
import java.util.ArrayList;
import java.util.Arrays;
import java.util.List;
import java.util.Set;
import java.util.TreeSet;
import java.util.regex.Matcher;
import java.util.regex.Pattern;

/** The face of the document, and those rules of LANGUAGE.md that can be seen from outside. */
public final class LanguageTest {
    private static int wrong = 0;

    private static void check(boolean holds, String what) {
        if (!holds) {
            wrong++;
            System.out.println(what);
        }
    }

    public static void main(String[] args) throws Exception {
        face();
        classes();
        source(Files.readString(Path.of("src/main/java/LeavenHouse.java")));
        System.out.println(wrong == 0 ? "language: all as due" : wrong + " wrong");
        System.exit(wrong == 0 ? 0 : 1);
    }

    /** The methods of "The public face", each as its kind, its name and the kinds it takes. */
    private static Set<String> faceOfDocument() throws Exception {
        String doc = Files.readString(Path.of("../shared/DOC.md"));
        int from = doc.indexOf("## The public face");
        String face = doc.substring(from, doc.indexOf("## Terms", from));
        Set<String> methods = new TreeSet<>();
        Matcher m = Pattern.compile("public (\\w+ \\w+\\()([^)]*)\\);").matcher(face);
        while (m.find()) {
            methods.add(m.group(1) + m.group(2).replaceAll(" \\w+(,|$)", "$1").replace(", ", ",") + ")");
        }
        check(methods.size() == 47, "the document's face: " + methods);
        return methods;
    }

    private static void face() throws Exception {
        Set<String> want = faceOfDocument();
        Set<String> got = new TreeSet<>();
        for (Method m : LeavenHouse.class.getDeclaredMethods()) {
            if (Modifier.isPublic(m.getModifiers())) {
                List<String> kinds = new ArrayList<>();
                for (Class<?> k : m.getParameterTypes()) {
                    kinds.add(k.getName());
                }
                got.add(m.getReturnType() + " " + m.getName() + "(" + String.join(",", kinds) + ")");
                check(!Modifier.isStatic(m.getModifiers()), m + " is static");
            } else {
                check(Modifier.isPrivate(m.getModifiers()), m + " can be seen");
            }
        }
        check(got.equals(want), "the face: " + got);
        for (Field f : LeavenHouse.class.getDeclaredFields()) {
            check(f.getName().equals("NONE") ? Modifier.isPublic(f.getModifiers())
                    : Modifier.isPrivate(f.getModifiers()), f + " can be seen");
        }
        check(LeavenHouse.class.getConstructors().length == 1, "constructors");
        check(Modifier.isFinal(LeavenHouse.class.getModifiers()), "the class is not final");
    }

    private static void classes() {
        Set<String> names = new TreeSet<>();
        for (Method m : LeavenHouse.class.getDeclaredMethods()) {
            if (Modifier.isPublic(m.getModifiers())) {
                names.add(m.getName());
            }
        }
        List<Class<?>> all = new ArrayList<>(Arrays.asList(LeavenHouse.class.getDeclaredClasses()));
        check(all.size() <= 11, "too many classes: " + all.size());
        all.add(LeavenHouse.class);
        for (Class<?> c : all) {
            check(c == LeavenHouse.class || Modifier.isStatic(c.getModifiers()), c + " is inner");
            int fields = 0;
            for (Field f : c.getDeclaredFields()) {
                boolean fixed = Modifier.isStatic(f.getModifiers());
                check(!fixed || Modifier.isFinal(f.getModifiers()), f + " is static, not final");
                fields += fixed ? 0 : 1;
            }
            check(fields <= 20, c + " has " + fields + " fields");
            for (Method m : c.getDeclaredMethods()) {
                check(m.getParameterCount() <= 7, m + " takes too many");
                check(c == LeavenHouse.class && Modifier.isPublic(m.getModifiers())
                        || !names.contains(m.getName()), m + " bears a public name");
            }
        }
    }

    private static void source(String text) {
        String bare = text.replaceAll("(?s)/\\*.*?\\*/", " ").replaceAll("//[^\n]*", " ")
                .replaceAll("\"[^\"\n]*\"", "\"\"").replaceAll("'[^'\n]+'", "0");
        for (String word : List.of("throw", "throws", "try", "catch", "finally", "synchronized",
                "assert", "import", "package", "double", "float", "System.out", "var", "protected",
                "native", "volatile", "transient", "hashCode", "toString", "Exact", "Thread", "Random",
                "nanoTime", "currentTimeMillis", "getClass", "interface", "extends", "implements")) {
            Matcher m = Pattern.compile("\\b" + Pattern.quote(word) + "\\b").matcher(bare);
            check(!m.find(), "the source has " + word);
        }
        check(!bare.contains("->") && !bare.contains("::"), "a lambda or a reference to a method");
        for (int i = 0; i < text.length(); i++) {
            check(text.charAt(i) < 128, "a sign above 127");
        }
        check(!bare.contains("\"\" +") && !bare.contains("+ \"\""), "texts joined by +");
        lengths(bare);
    }

    /** Methods begin at four or eight blanks and end with a brace at the same place. */
    private static void lengths(String bare) {
        String[] lines = bare.split("\n", -1);
        for (int i = 0; i < lines.length; i++) {
            Matcher m = Pattern.compile("^( {4}| {8})[a-zA-Z].*\\) \\{$").matcher(lines[i]);
            if (!m.find()) {
                continue;
            }
            int end = i;
            while (end < lines.length && !lines[end].equals(m.group(1) + "}")) {
                end++;
            }
            check(end - i < 60, "a long method: " + lines[i].trim());
        }
    }
}
