import java.io.IOException;
import java.lang.reflect.Field;
import java.lang.reflect.Method;
import java.lang.reflect.Modifier;
import java.nio.file.Files;
import java.nio.file.Path;
import java.nio.file.StandardCopyOption;
import java.util.ArrayList;
import java.util.Comparator;
import java.util.List;
import java.util.Set;
import java.util.TreeSet;
import java.util.regex.Matcher;
import java.util.regex.Pattern;
import java.util.stream.Stream;

/** What README.md says is so when it is tried: its examples, programs and commands, its table, the files it names. */
public final class ReadmeTest {
    private static final Pattern BLOCK = Pattern.compile("(?ms)^```(\\w+)\n(.*?)^```$");
    private static final Pattern PROGRAM = Pattern.compile("\\bclass (\\w+)");
    private static final Pattern MADE = Pattern.compile("WholeMarks x = new WholeMarks\\(\\);");
    private static final Pattern ASKED = Pattern.compile("(x\\.(\\w+)\\(.*\\)); *// (-?\\d+|[A-Z]+)(?::.*)?");
    private static final Pattern CONSTANT = Pattern.compile("(?m)^\\| `(\\w+)` \\| (-\\d+) \\| .+ \\|$");
    private static final Pattern NAMED_FILE = Pattern.compile("`((?:src|\\.\\./shared|\\.ci)[\\w./]*)`");
    private static final Pattern NAMED_CLASS = Pattern.compile("`([A-Z][a-z]+)`");
    private static final String EXAMPLES = "ReadmeExamples";
    private static final String HEAD = "public final class " + EXAMPLES + """
         {
            private static int wrong;

            private static void due(String call, long got, long want) {
                if (got != want) {
                    wrong++;
                    System.out.println(call + " answered " + got + ", due is " + want);
                }
            }

            public static void main(String[] args) {
        """;
    private static final String FOOT = """
                System.exit(wrong == 0 ? 0 : 1);
            }
        }
        """;

    private static int tried;
    private static int wrong;

    private static void due(String what, boolean holds) {
        tried++;
        if (!holds) {
            wrong++;
            System.out.println("README.md: " + what);
        }
    }

    public static void main(String[] args) throws Exception {
        String readme = Files.readString(Path.of("README.md"));
        Path work = Files.createTempDirectory("readme");
        try {
            copy(Path.of("src"), work);
            examples(readme, work);
            commands(readme, work);
        } finally {
            remove(work);
        }
        constants(readme);
        files(readme);
        classes(readme);
        System.out.println(tried + " things of README.md tried, " + wrong + " wrong");
        if (wrong != 0) {
            System.exit(1);
        }
    }

    /** Compiles and runs all examples, each with an object of its own. */
    private static void examples(String readme, Path work) throws Exception {
        StringBuilder text = new StringBuilder(HEAD);
        Set<String> calls = new TreeSet<>();
        for (String example : blocks(readme, "java")) {
            if (!PROGRAM.matcher(example).find()) {
                text.append("        {\n");
                for (String row : example.split("\n")) {
                    text.append("            ").append(asked(row, calls)).append('\n');
                }
                text.append("        }\n");
            }
        }
        text.append(FOOT);
        due("no example asks " + missing(calls), missing(calls).isEmpty());
        Files.writeString(work.resolve(EXAMPLES + ".java"), text);
        String said = run(work, "javac -d out src/main/java/WholeMarks.java " + EXAMPLES + ".java\njava -cp out " + EXAMPLES);
        due("an example answers otherwise: " + said, said.equals(""));
    }

    /** A row of an example as one that asks whether the answer is as told. */
    private static String asked(String row, Set<String> calls) {
        Matcher asks = ASKED.matcher(row);
        if (!asks.matches()) {
            due("no example's row: " + row, MADE.matcher(row).matches());
            return row;
        }
        calls.add(asks.group(2));
        tried++;
        boolean isNumber = asks.group(3).matches("-?\\d+");
        String want = isNumber ? asks.group(3) + "L" : "WholeMarks." + asks.group(3);
        return "due(\"" + asks.group(1) + "\", " + asks.group(1) + ", " + want + ");";
    }

    private static Set<String> missing(Set<String> calls) {
        Set<String> missing = new TreeSet<>();
        for (Method m : WholeMarks.class.getDeclaredMethods()) {
            if (Modifier.isPublic(m.getModifiers()) && !calls.contains(m.getName())) {
                missing.add(m.getName());
            }
        }
        return missing;
    }

    /** Runs its programs by its commands; a text behind a command is what that prints. */
    private static void commands(String readme, Path work) throws Exception {
        List<String> texts = new ArrayList<>();
        Matcher block = BLOCK.matcher(readme);
        String said = null;
        while (block.find()) {
            String inside = block.group(2);
            Matcher program = PROGRAM.matcher(inside);
            if (block.group(1).equals("java") && program.find()) {
                Files.writeString(work.resolve(program.group(1) + ".java"), inside);
            } else if (block.group(1).equals("sh") && inside.equals(".ci/run\n")) {
                due(".ci/run can't be run", Files.isExecutable(Path.of(".ci/run")));
            } else if (block.group(1).equals("sh")) {
                said = run(work, inside);
                due("fails: " + inside + said, !said.startsWith("ended with"));
            } else if (block.group(1).equals("text")) {
                texts.add(inside);
                due("says that it prints " + inside + "it printed " + said, inside.equals(said));
            }
        }
        due("no text that a program prints", !texts.isEmpty());
    }

    private static void constants(String readme) throws Exception {
        Set<String> told = new TreeSet<>();
        Matcher row = CONSTANT.matcher(readme);
        while (row.find()) {
            told.add(row.group(1) + " " + row.group(2));
        }
        Set<String> there = new TreeSet<>();
        for (Field f : WholeMarks.class.getFields()) {
            there.add(f.getName() + " " + f.getInt(null));
        }
        due("constants are " + there + ", not " + told, told.equals(there));
    }

    private static void files(String readme) throws IOException {
        Set<String> named = new TreeSet<>();
        Matcher file = NAMED_FILE.matcher(readme);
        while (file.find()) {
            named.add(file.group(1));
            due("there is no " + file.group(1), Files.exists(Path.of(file.group(1))));
        }
        try (Stream<Path> tests = Files.list(Path.of("src/test/java"))) {
            for (Path test : (Iterable<Path>) tests::iterator) {
                due("does not name " + test, named.contains(test.toString()));
            }
        }
    }

    private static void classes(String readme) {
        Set<String> there = new TreeSet<>();
        for (Class<?> inside : WholeMarks.class.getDeclaredClasses()) {
            there.add(inside.getSimpleName());
        }
        Matcher named = NAMED_CLASS.matcher(readme);
        while (named.find()) {
            due("there is no class " + named.group(1), there.contains(named.group(1)));
        }
    }

    private static List<String> blocks(String readme, String language) {
        List<String> blocks = new ArrayList<>();
        Matcher block = BLOCK.matcher(readme);
        while (block.find()) {
            if (block.group(1).equals(language)) {
                blocks.add(block.group(2));
            }
        }
        due("no block of " + language, !blocks.isEmpty());
        return blocks;
    }

    /** What it prints (not what the machine says beside it); behind "ended with", if it fails. */
    private static String run(Path where, String commands) throws Exception {
        ProcessBuilder bash = new ProcessBuilder("bash", "-e", "-c", commands).directory(where.toFile());
        Process process = bash.redirectError(ProcessBuilder.Redirect.INHERIT).start();
        process.getOutputStream().close();
        String said = new String(process.getInputStream().readAllBytes());
        int ended = process.waitFor();
        return ended == 0 ? said : "ended with " + ended + ": " + said;
    }

    private static void copy(Path from, Path to) throws IOException {
        try (Stream<Path> paths = Files.walk(from)) {
            for (Path path : (Iterable<Path>) paths::iterator) {
                Files.copy(path, to.resolve(path), StandardCopyOption.REPLACE_EXISTING);
            }
        }
    }

    private static void remove(Path from) throws IOException {
        try (Stream<Path> paths = Files.walk(from)) {
            for (Path path : (Iterable<Path>) paths.sorted(Comparator.reverseOrder())::iterator) {
                Files.delete(path);
            }
        }
    }
}
