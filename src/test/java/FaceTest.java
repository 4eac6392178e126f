import java.io.IOException;
import java.lang.reflect.Constructor;
import java.lang.reflect.Field;
import java.lang.reflect.Method;
import java.lang.reflect.Modifier;
import java.nio.file.Files;
import java.nio.file.Path;
import java.util.Arrays;
import java.util.List;
import java.util.Set;
import java.util.TreeSet;
import java.util.regex.Matcher;
import java.util.regex.Pattern;

/** The public face of the document, and the rules of LANGUAGE.md that can be seen from outside or by words. */
public final class FaceTest {
    private static final Path SOURCE = Path.of("src/main/java/OldReckoner.java");
    private static final int LONGEST_METHOD = 60;
    private static final int MOST_CLASSES = 12;
    private static final int MOST_FIELDS = 20;
    private static final int MOST_PARAMETERS = 7;
    private static final String[] FACE = {
        "lies(int,int)", "within(int,int)", "likeness(int,int,int,int)", "holds(int,int,int,int)",
        "doubt(int,int,int)", "drop(int,int)", "forget()", "told(int,int)", "isOf(int,int)", "end(int,int,int)",
        "counts(int,int,int)", "ways(int,int)", "way(int,int,int,int)", "factor(int,int,int,int)",
        "span(int,int,int,int)", "quarrel(int,int)", "cure(int)", "heal(int)", "custom(int,int)",
        "step(int,int,int)", "copy(int,int,int)", "part(int,long,int)", "whole(int,long)",
        "line(int,int,int,int)", "amend(int,int)", "clear()", "total(int,int,int)", "slip(int,int)", "count(int)"};
    private static final String[] CONSTANTS = {
        "BAD", "NO", "FULL", "LARGE", "NONE", "NOTHING", "INDEX", "SIZE"};
    private static final String[] FORBIDDEN = {
        "\\bthrow\\b", "\\bthrows\\b", "\\btry\\b", "\\bcatch\\b", "\\bsynchronized\\b", "\\bassert\\b", "->", "::",
        "@", "Exact\\b", "\\bvar\\b", "\\bpackage\\b", "\\bString\\b", "\\bSystem\\.(?!arraycopy)", "\\bvolatile\\b",
        "\\bprotected\\b", "\\bstatic\\s*\\{", "\\bequals\\b", "\\bhashCode\\b", "\\btoString\\b", "\\bdouble\\b",
        "\\bfloat\\b"};

    private static int wrong;

    private FaceTest() {
    }

    public static void main(String[] args) throws IOException {
        methods();
        constants();
        constructors();
        insideClasses();
        words();
        methodLengths();
        System.out.println(wrong == 0 ? "the face and the words are as due" : wrong + " things are not as due");
        if (wrong != 0) {
            System.exit(1);
        }
    }

    private static void check(boolean right, String otherwise) {
        if (!right) {
            wrong++;
            System.out.println(otherwise);
        }
    }

    private static String signature(Method m) {
        StringBuilder s = new StringBuilder(m.getName()).append('(');
        for (Class<?> type : m.getParameterTypes()) {
            s.append(s.charAt(s.length() - 1) == '(' ? "" : ",").append(type.getSimpleName());
        }
        return s.append(')').toString();
    }

    private static void methods() {
        check(Modifier.isPublic(OldReckoner.class.getModifiers()), "the class is not public");
        check(Modifier.isFinal(OldReckoner.class.getModifiers()), "the class is not final");
        Set<String> seen = new TreeSet<>();
        for (Method m : OldReckoner.class.getDeclaredMethods()) {
            if (Modifier.isPrivate(m.getModifiers())) {
                continue;
            }
            seen.add(signature(m));
            check(Modifier.isPublic(m.getModifiers()), m + " is neither public nor private");
            check(m.getReturnType() == long.class, m + " answers no long");
            check(!Modifier.isStatic(m.getModifiers()), m + " is static");
        }
        check(seen.equals(new TreeSet<>(Arrays.asList(FACE))), "the methods are " + seen);
    }

    private static void constants() {
        Set<String> seen = new TreeSet<>();
        for (Field f : OldReckoner.class.getDeclaredFields()) {
            if (!Modifier.isPrivate(f.getModifiers())) {
                seen.add(f.getName());
                check(f.getType() == long.class && Modifier.isPublic(f.getModifiers())
                        && Modifier.isStatic(f.getModifiers()), f + " is no public constant");
            }
        }
        check(seen.equals(new TreeSet<>(Arrays.asList(CONSTANTS))), "the constants are " + seen);
    }

    private static void constructors() {
        Constructor<?>[] all = OldReckoner.class.getDeclaredConstructors();
        check(all.length == 1 && all[0].getParameterCount() == 0 && Modifier.isPublic(all[0].getModifiers()),
                "the constructors are " + Arrays.toString(all));
    }

    private static void insideClasses() {
        Class<?>[] inside = OldReckoner.class.getDeclaredClasses();
        check(inside.length + 1 <= MOST_CLASSES, "there are " + inside.length + " classes inside");
        checkMembers(OldReckoner.class);
        for (Class<?> c : inside) {
            int m = c.getModifiers();
            check(Modifier.isStatic(m), c + " is not static");
            check(!Modifier.isPublic(m) && !Modifier.isProtected(m), c + " can be seen");
            checkMembers(c);
        }
    }

    private static void checkMembers(Class<?> c) {
        Set<String> faceNames = new TreeSet<>();
        for (String it : FACE) {
            faceNames.add(it.substring(0, it.indexOf('(')));
        }
        int fields = 0;
        for (Field f : c.getDeclaredFields()) {
            boolean isStatic = Modifier.isStatic(f.getModifiers());
            fields += isStatic ? 0 : 1;
            check(!isStatic || Modifier.isFinal(f.getModifiers()), f + " is static, but not final");
        }
        check(fields <= MOST_FIELDS, c + " has " + fields + " fields");
        for (Method m : c.getDeclaredMethods()) {
            check(m.getParameterCount() <= MOST_PARAMETERS, m + " takes too much");
            check(Modifier.isPublic(m.getModifiers()) || !faceNames.contains(m.getName()),
                    m + " bears the name of a public one");
        }
    }

    private static String withoutComments(String text) {
        return text.replaceAll("(?s)/\\*.*?\\*/", "").replaceAll("//[^\n]*", "");
    }

    private static void words() throws IOException {
        String text = withoutComments(Files.readString(SOURCE));
        for (String word : FORBIDDEN) {
            Matcher m = Pattern.compile(word).matcher(text);
            check(!m.find(), "the program has " + word);
        }
        Matcher imports = Pattern.compile("(?m)^import (.*);").matcher(text);
        while (imports.find()) {
            check(imports.group(1).equals("java.util.Arrays"), "the program imports " + imports.group(1));
        }
        Matcher library = Pattern.compile("\\b(Arrays|Math|Long|Integer)\\.(\\w+)").matcher(text);
        while (library.find()) {
            check(Set.of("fill", "abs", "max", "min", "floorDiv", "bitCount", "util").contains(library.group(2)),
                    "the program calls " + library.group());
        }
    }

    private static void methodLengths() throws IOException {
        List<String> rows = Files.readAllLines(SOURCE);
        int begun = 0;
        for (int i = 0; i < rows.size(); i++) {
            if (rows.get(i).matches(" {4,8}\\w.*\\) \\{")) {
                begun = i;
            }
            if (rows.get(i).matches(" {4,8}\\}")) {
                check(!rows.get(begun).contains("(") || !rows.get(begun).endsWith("{")
                        || i - begun < LONGEST_METHOD || rows.get(begun).contains("class"),
                        "a method is long: " + rows.get(begun).trim());
            }
        }
    }
}
