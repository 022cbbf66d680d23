import java.io.IOException;
import java.lang.reflect.Constructor;
import java.lang.reflect.Field;
import java.lang.reflect.Member;
import java.lang.reflect.Method;
import java.lang.reflect.Modifier;
import java.nio.file.Files;
import java.nio.file.Path;
import java.util.Arrays;
import java.util.HashSet;
import java.util.Set;
import java.util.TreeSet;
import java.util.regex.Matcher;
import java.util.regex.Pattern;

/** Those rules of LANGUAGE.md, and of the public face, that can be seen from the source or the classes. */
public final class LanguageTest {
    private static final String[] FACE = {"int row(int, int, int)", "boolean tear(int)", "int write(int, int, long)",
        "int seen(int)", "int see(int, int, int, int)", "int drop(int)", "int straight(int)", "int capped(int, int)",
        "int table(int)", "int sum(int, int)", "int unlike(int, int)", "boolean use(int)", "boolean nearest(int)",
        "int ask(int, int)", "int mean(int)", "boolean answer(int)", "boolean leftOut(int)", "int worst()",
        "int best()", "int allowed(int)", "int pairs(int, int)", "boolean band(int, int)", "int look(int)",
        "int part(boolean, int)", "int told(int, int)", "int count(int)"};
    private static final String[] FORBIDDEN = {"\\bthrow\\b", "\\bthrows\\b", "\\btry\\b", "\\bcatch\\b",
        "\\bsynchronized\\b", "\\bassert\\b", "\\bpackage\\b", "\\bimport\\b", "->", "::", "Exact\\(", "\\bdouble\\b",
        "\\bfloat\\b", "\\bprotected\\b", "\\brecord\\b", "\\benum\\b", "\\bObject\\b", "\\bSystem\\b"};
    private static final Set<String> LIBRARY = Set.of("Math.max", "Math.min", "Math.abs", "Long.signum");

    private static int wrong = 0;

    public static void main(String[] args) throws IOException {
        String source = Files.readString(Path.of(args[0], "src/main/java/NeighbourBoard.java"));
        String code = source.replaceAll("(?s)/\\*.*?\\*/", "").replaceAll("//[^\n]*", "");
        for (String word : FORBIDDEN) no("rules 3, 4, 6: " + word, Pattern.compile(word).matcher(code).find());
        Matcher call = Pattern.compile("\\b(Math|Long|Integer|Arrays|String)\\.\\w+").matcher(code);
        while (call.find()) no("rule 4: " + call.group(), !LIBRARY.contains(call.group()));
        lookAtLengths(code);
        lookAtFace();
        int classes = 1 + NeighbourBoard.class.getDeclaredClasses().length;
        no("rule 11: " + classes + " classes", classes > 12);
        lookAtClass(NeighbourBoard.class);
        for (Class<?> inside : NeighbourBoard.class.getDeclaredClasses()) {
            no("rule 2: " + inside, !Modifier.isStatic(inside.getModifiers()));
            no("rule 1: " + inside, Modifier.isPublic(inside.getModifiers()));
            lookAtClass(inside);
        }
        System.out.println(wrong == 0 ? "the rules are kept" : wrong + " breaches");
        if (wrong != 0) System.exit(1);
    }

    private static void no(String rule, boolean broken) {
        if (broken) {
            wrong++;
            System.out.println("broken: " + rule);
        }
    }

    private static void lookAtLengths(String code) {
        Matcher method = Pattern.compile("(?m)^( {4}| {8})\\S[^;={}]*\\([^;{}]*\\)\\s*\\{\n").matcher(code);
        while (method.find()) {
            int end = code.indexOf("\n" + method.group(1) + "}\n", method.start());
            long lines = code.substring(method.start(), end).lines().count() + 1;
            no("rule 11: " + lines + " lines of" + method.group(), lines > 60);
        }
    }

    private static String head(Method m) {
        String types = Arrays.toString(Arrays.stream(m.getParameterTypes()).map(Class::getName).toArray());
        return m.getReturnType().getName() + " " + m.getName() + "(" + types.substring(1, types.length() - 1) + ")";
    }

    private static void lookAtFace() {
        Class<?> face = NeighbourBoard.class;
        no("the class is public and final",
            !Modifier.isPublic(face.getModifiers()) || !Modifier.isFinal(face.getModifiers()));
        Set<String> found = new TreeSet<>();
        for (Method m : face.getDeclaredMethods()) {
            if (!Modifier.isPrivate(m.getModifiers())) found.add(head(m));
        }
        no("the face: " + found, !found.equals(new TreeSet<>(Arrays.asList(FACE))));
        for (Field f : face.getDeclaredFields()) {
            boolean constant = f.getName().equals("NONE") && Modifier.isPublic(f.getModifiers());
            no("rule 1: " + f, !constant && !Modifier.isPrivate(f.getModifiers()));
        }
        Constructor<?>[] made = face.getDeclaredConstructors();
        no("rule 1: constructors", made.length != 1 || !Modifier.isPublic(made[0].getModifiers())
            || made[0].getParameterCount() != 0);
    }

    private static void lookAtClass(Class<?> c) {
        Set<String> names = new HashSet<>();
        for (String head : FACE) names.add(head.replaceAll("\\w+ (\\w+)\\(.*", "$1"));
        int fields = 0;
        for (Field f : c.getDeclaredFields()) {
            if (!Modifier.isStatic(f.getModifiers())) fields++;
            else no("rule 5: " + f, !Modifier.isFinal(f.getModifiers()) || !f.getType().isPrimitive());
        }
        no("rule 11: fields of " + c, fields > 20);
        for (Method m : c.getDeclaredMethods()) {
            no("rule 11: parameters of " + m, m.getParameterCount() > 7);
            no("rule 1: the name of " + m, !isOfFace(m) && names.contains(m.getName()));
        }
    }

    private static boolean isOfFace(Member m) {
        return m.getDeclaringClass() == NeighbourBoard.class && Modifier.isPublic(m.getModifiers());
    }
}
