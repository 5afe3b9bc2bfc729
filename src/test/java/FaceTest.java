import java.io.IOException;
import java.lang.reflect.Constructor;
import java.lang.reflect.Field;
import java.lang.reflect.Method;
import java.lang.reflect.Modifier;
import java.nio.file.Files;
import java.nio.file.Path;
import java.util.Arrays;
import java.util.Set;
import java.util.TreeSet;
import java.util.regex.Matcher;
import java.util.regex.Pattern;

/** The public face, and the rules of LANGUAGE.md that can be seen from outside or by words. */
public final class FaceTest {
    private static final Checks CHECKS = new Checks();
    private static final String[] FACE = {
        "int nodes[int]", "int line[int, int, int]", "int drop[int]", "int keep[int, int]", "int at[int, int]",
        "int cut[int, int]", "int worst[int]", "int promise[int, int]", "int forests[]", "int peel[int]",
        "int greedy[int]", "int fewest[int, int]", "int thin[int]", "int far[int, int, int]", "int stretch[int]",
        "long trees[int]", "long resistance[int, int, int, int]", "long load[int, int]", "int count[int]",
    };

    public static void main(String[] args) throws IOException {
        constants();
        methods();
        members();
        classesInside();
        String text = Files.readString(Path.of("src/main/java/FewLines.java"));
        String code = text.replaceAll("(?s)/\\*.*?\\*/", "").replaceAll("//[^\n]*", "");
        words(code);
        makings(code);
        CHECKS.end();
    }

    private static void constants() {
        CHECKS.due("NONE", FewLines.NONE, -1);
        CHECKS.due("UNKNOWN", FewLines.UNKNOWN, -2);
        CHECKS.due("OUTSIDE", FewLines.OUTSIDE, -3);
        CHECKS.due("NOT", FewLines.NOT, -4);
        CHECKS.due("FULL", FewLines.FULL, -5);
    }

    private static void methods() {
        Set<String> found = new TreeSet<>();
        Set<String> publicNames = new TreeSet<>();
        for (Method method : FewLines.class.getDeclaredMethods()) {
            if (!Modifier.isPrivate(method.getModifiers())) {
                CHECKS.holds(method + " is public", Modifier.isPublic(method.getModifiers()));
                found.add(method.getReturnType() + " " + method.getName() + Arrays.toString(method.getParameterTypes()));
                publicNames.add(method.getName());
            }
        }
        CHECKS.holds("the methods are those of the document: " + found, found.equals(new TreeSet<>(Arrays.asList(FACE))));
        for (Method method : FewLines.class.getDeclaredMethods()) {
            boolean isHidden = Modifier.isPrivate(method.getModifiers());
            CHECKS.holds("rule 1: " + method + " has a name of its own", !isHidden || !publicNames.contains(method.getName()));
            CHECKS.holds("rule 11: " + method + " has few parameters", method.getParameterCount() <= 7);
        }
    }

    private static void members() {
        CHECKS.holds("rule 1: the class is public and final",
            FewLines.class.getModifiers() == (Modifier.PUBLIC | Modifier.FINAL));
        Constructor<?>[] constructors = FewLines.class.getDeclaredConstructors();
        CHECKS.due("constructors", constructors.length, 1);
        CHECKS.holds("the constructor is public and takes nothing",
            Modifier.isPublic(constructors[0].getModifiers()) && constructors[0].getParameterCount() == 0);
        Set<String> seen = new TreeSet<>();
        int own = 0;
        for (Field field : FewLines.class.getDeclaredFields()) {
            int modifiers = field.getModifiers();
            if (!Modifier.isPrivate(modifiers)) {
                seen.add(field.getName());
            }
            CHECKS.holds("rule 5: " + field + " is final", !Modifier.isStatic(modifiers) || Modifier.isFinal(modifiers));
            own += Modifier.isStatic(modifiers) ? 0 : 1;
        }
        CHECKS.holds("rule 11: few fields", own <= 20);
        CHECKS.holds("rule 1: just the constants are public: " + seen,
            seen.equals(Set.of("NONE", "UNKNOWN", "OUTSIDE", "NOT", "FULL")));
    }

    private static void classesInside() {
        CHECKS.holds("rule 11: few classes", FewLines.class.getDeclaredClasses().length <= 11);
        for (Class<?> inside : FewLines.class.getDeclaredClasses()) {
            int modifiers = inside.getModifiers();
            CHECKS.holds("rule 2: " + inside + " is static", Modifier.isStatic(modifiers));
            CHECKS.holds("rule 1: " + inside + " is not seen from everywhere",
                !Modifier.isPublic(modifiers) && !Modifier.isProtected(modifiers));
            CHECKS.holds("rule 11: " + inside + " has few fields", inside.getDeclaredFields().length <= 20);
            for (Method method : inside.getDeclaredMethods()) {
                CHECKS.holds("rule 11: " + method + " has few parameters", method.getParameterCount() <= 7);
            }
        }
    }

    /** All calls of one run share one room, so what a call needs is made with its object. */
    private static void makings(String code) {
        String calls = code.replaceAll("\\b(FewLines|Parts|Lengths|Minors)\\(\\) \\{[^}]*\\}", "");
        CHECKS.holds("the constructors have been found", !calls.equals(code));
        CHECKS.holds("a call makes no object",
            !Pattern.compile("\\bnew\\b|\\bclone\\b|\\bcopyOf|\\bString|List\\b|\"").matcher(calls).find());
    }

    private static void words(String code) {
        String[] barred = {"\\b(throw|throws|try|catch|synchronized|assert|package|native|volatile)\\b", "->", "::",
            "Exact\\b", "\\bSystem\\b", "\\bThread\\b", "\\bRandom\\b", "\\bstatic\\s*\\{", "\\[\\]\\[\\]\\[\\]"};
        for (String pattern : barred) {
            Matcher found = Pattern.compile(pattern).matcher(code);
            CHECKS.holds("LANGUAGE.md bars " + pattern, !found.find());
        }
        Matcher imports = Pattern.compile("import\\s+([\\w.*]+)").matcher(code);
        while (imports.find()) {
            CHECKS.holds("rule 4: import " + imports.group(1),
                Set.of("java.util.Arrays", "java.util.ArrayList", "java.util.List").contains(imports.group(1)));
        }
    }
}
