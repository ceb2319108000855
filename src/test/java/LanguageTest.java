import java.lang.reflect.Constructor;
import java.lang.reflect.Field;
import java.lang.reflect.Member;
import java.lang.reflect.Method;
import java.lang.reflect.Modifier;
import java.nio.file.Files;
import java.nio.file.Path;
import java.util.ArrayList;
import java.util.List;
import java.util.Set;
import java.util.TreeSet;
import java.util.regex.Matcher;
import java.util.regex.Pattern;

/** The document's face, and those rules of LANGUAGE.md that can be seen from a class or from its text. */
public final class LanguageTest {
    private static final String[] FACE = {
        "int measure(int, int)", "int rule(int, int)", "int seam(int)", "long place(int)", "long places(long)",
        "int bolt(int, int)", "int told(int, int)", "int cut(int, int)", "int join(int, int)", "int type(long, int)",
        "int towns()", "int count(int)", "int most(int, int)", "int buyer(int)", "int home()", "long price(int)",
        "long parties(int, int)", "int third(int)", "int worn(int)", "int rate(int, int, int, int)", "int rings(int)",
        "long turn(int, int, int, int)", "int image()", "int restore()", "int leaves(int, int, int)",
        "int fit(int, int, int, int, int)", "int film(int, int, int)", "int sheet(int, int, int)", "int drop(int)",
        "int item(int, int, int, long)", "int copy(int, int, int, int, int)"};
    private static final String[] CONSTANTS = {"BAD", "NOT", "FULL", "NONE", "NULL", "CAST", "INDEX", "SIZE"};
    private static final int[] VALUES = {-1, -2, -3, -4, -11, -12, -13, -14};
    /** What the rules leave out, or what this class has no need of. */
    private static final String[] LEFT_OUT = {
        "->", "::", "\\bimport\\b", "\\bpackage\\b", "\\bthrow\\b", "\\btry\\b", "\\bcatch\\b", "\\bfinally\\b", "\\bsynchronized\\b",
        "\\bassert\\b", "\\bvar\\b", "\\bprotected\\b", "\\bInteger\\.parse", "Exact\\b", "\\bRandom\\b", "\\bThread\\b", "\\bObject\\b",
        "\\bSystem\\.(?!arraycopy\\b)", "\\bjava\\.", "\\bequals\\b", "\\bhashCode\\b", "\\btoString\\b", "\\bHash", "\\bstatic\\s*\\{",
        "\\bNaN\\b", "\\bvolatile\\b", "\\bnative\\b", "@"};
    /** All that the class takes of the library, and rule 4 lists. */
    private static final Set<String> LIBRARY = Set.of("System.arraycopy", "Math.min", "Math.max", "Integer.bitCount");

    private static int told;
    private static int wrong;

    private static void due(String what, boolean holds) {
        told++;
        if (!holds) {
            wrong++;
            System.out.println("does not hold: " + what);
        }
    }

    public static void main(String[] args) throws Exception {
        face();
        constants();
        List<Class<?>> classes = new ArrayList<>();
        classes.add(WholeMarks.class);
        for (Class<?> inside : WholeMarks.class.getDeclaredClasses()) {
            due(inside + " is private or package-visible", !Modifier.isPublic(inside.getModifiers()));
            due(inside + " is static", Modifier.isStatic(inside.getModifiers()));
            due(inside + " holds no class", inside.getDeclaredClasses().length == 0);
            classes.add(inside);
        }
        due("twelve classes at most", classes.size() <= 12);
        for (Class<?> c : classes) {
            members(c);
        }
        text(Files.readString(Path.of("src/main/java/WholeMarks.java")));
        System.out.println(told + " rules looked at, " + wrong + " broken");
        if (wrong != 0) {
            System.exit(1);
        }
    }

    private static void face() {
        due("the class is public and final", WholeMarks.class.getModifiers() == (Modifier.PUBLIC | Modifier.FINAL));
        due("it has no package", WholeMarks.class.getPackageName().isEmpty());
        due("it stands below Object alone", WholeMarks.class.getSuperclass() == Object.class
            && WholeMarks.class.getInterfaces().length == 0);
        Set<String> face = new TreeSet<>();
        for (Method m : WholeMarks.class.getDeclaredMethods()) {
            if (!Modifier.isPrivate(m.getModifiers())) {
                due(m + " is public and no more", m.getModifiers() == Modifier.PUBLIC);
                String types = java.util.Arrays.toString(m.getParameterTypes());
                face.add(m.getReturnType() + " " + m.getName() + "(" + types.substring(1, types.length() - 1) + ")");
            }
        }
        due("the methods are " + face, face.equals(new TreeSet<>(List.of(FACE))));
        Constructor<?>[] made = WholeMarks.class.getDeclaredConstructors();
        due("one constructor", made.length == 1 && made[0].getModifiers() == Modifier.PUBLIC && made[0].getParameterCount() == 0);
    }

    private static void constants() throws Exception {
        for (int i = 0; i < CONSTANTS.length; i++) {
            Field f = WholeMarks.class.getDeclaredField(CONSTANTS[i]);
            due(f + " is a constant", f.getModifiers() == (Modifier.PUBLIC | Modifier.STATIC | Modifier.FINAL));
            due(f + " is " + VALUES[i], f.getType() == int.class && f.getInt(null) == VALUES[i]);
        }
        for (Field f : WholeMarks.class.getDeclaredFields()) {
            boolean told = List.of(CONSTANTS).contains(f.getName());
            due(f + " is of the face or private", told || Modifier.isPrivate(f.getModifiers()));
        }
    }

    private static Set<String> faceNames() {
        Set<String> names = new TreeSet<>();
        for (String call : FACE) {
            names.add(call.substring(call.indexOf(' ') + 1, call.indexOf('(')));
        }
        return names;
    }

    private static void members(Class<?> c) {
        int fields = 0;
        for (Field f : c.getDeclaredFields()) {
            fields += Modifier.isStatic(f.getModifiers()) ? 0 : 1;
            due(f + " is final, as it is static", !Modifier.isStatic(f.getModifiers()) || Modifier.isFinal(f.getModifiers()));
        }
        due(c + " has twenty fields at most", fields <= 20);
        for (Method m : c.getDeclaredMethods()) {
            due(m + " takes seven at most", m.getParameterCount() <= 7);
            boolean ofFace = c == WholeMarks.class && Modifier.isPublic(m.getModifiers());
            due(m + " bears no name of the face", ofFace || !faceNames().contains(m.getName()));
        }
        for (Member made : c.getDeclaredConstructors()) {
            due(made + " is of the face or not public", c == WholeMarks.class || !Modifier.isPublic(made.getModifiers()));
        }
    }

    private static void text(String text) {
        String bare = text.replaceAll("(?s)/\\*.*?\\*/", "").replaceAll("//[^\n]*", "");
        for (String out : LEFT_OUT) {
            Matcher found = Pattern.compile(out).matcher(bare);
            due("the text has no " + out, !found.find());
        }
        Matcher taken = Pattern.compile("\\b(?:System|Math|StrictMath|Integer|Long|Short|Byte|Character|Arrays|List|String)\\.\\w+").matcher(bare);
        while (taken.find()) {
            due("rule 4 lists " + taken.group(), LIBRARY.contains(taken.group()));
        }
        due("signs are 1 to 127", bare.chars().allMatch(c -> c > 0 && c < 128));
        int lines = 0;
        for (String line : bare.split("\n")) {
            lines = line.matches(" {4,8}\\}") ? 0 : lines + 1;
            due("methods stay short, not so at: " + line, lines <= 60);
        }
    }
}
