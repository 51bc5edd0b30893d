import java.io.IOException;
import java.lang.reflect.Method;
import java.lang.reflect.Modifier;
import java.net.URL;
import java.net.URLClassLoader;
import java.nio.file.Files;
import java.nio.file.Path;
import java.util.ArrayList;
import java.util.List;
import java.util.Set;
import java.util.TreeSet;
import java.util.regex.Matcher;
import java.util.regex.Pattern;
import javax.tools.JavaCompiler;
import javax.tools.ToolProvider;

/** What README.md says is so: its calls answer as it tells, its commands work, and it leaves out no call and no test. */
public final class ReadmeTest {
    private static final Check C = new Check();
    private static final Pattern TOLD = Pattern.compile("(x\\.\\w+\\([^;]*\\)); +// (-?\\d+|[A-Z]+)(:.*)?");

    public static void main(String[] args) throws Exception {
        List<String> lines = Files.readAllLines(Path.of("README.md"));
        List<String> calls = blocks(lines, "```java");
        eachCallIsTold(calls);
        callsAnswerAsTold(calls);
        callsAreInTheirGroups(String.join("\n", lines));
        testsAreNamed(String.join("\n", lines));
        classesAreNamed(String.join("\n", lines));
        commands(blocks(lines, "```sh"));
        C.end("ReadmeTest");
    }

    private static void so(String what, boolean is) {
        C.due(what, is ? 1 : 0, 1);
    }

    /** The lines of all blocks that begin so, one behind the other. */
    private static List<String> blocks(List<String> lines, String begin) {
        List<String> out = new ArrayList<>();
        boolean in = false;
        for (String line : lines) {
            if (line.startsWith("```")) {
                in = line.equals(begin);
            } else if (in) {
                out.add(line);
            }
        }
        return out;
    }

    private static Set<String> publicNames() {
        Set<String> names = new TreeSet<>();
        for (Method m : WarmPlace.class.getDeclaredMethods()) {
            if (Modifier.isPublic(m.getModifiers())) {
                names.add(m.getName());
            }
        }
        return names;
    }

    /** Each public method is called at least once, and each call but those of the text has its answer. */
    private static void eachCallIsTold(List<String> calls) {
        Set<String> shown = new TreeSet<>();
        for (String line : calls) {
            Matcher call = Pattern.compile("x\\.(\\w+)\\(").matcher(line);
            while (call.find()) {
                shown.add(call.group(1));
            }
            so("the answer is told of '" + line + "'", !line.startsWith("x.") || TOLD.matcher(line).matches());
        }
        so("README shows " + shown, shown.equals(publicNames()));
    }

    /** The lines are compiled as they stand, each told answer beside the one that comes. */
    private static void callsAnswerAsTold(List<String> calls) throws Exception {
        StringBuilder code = new StringBuilder("public final class ReadmeCalls {\n"
            + "public static void run(java.util.List<String> names, java.util.List<Integer> answers) {\n");
        for (String line : calls) {
            Matcher told = TOLD.matcher(line);
            if (told.matches()) {
                String want = told.group(2).matches("[A-Z]+") ? "WarmPlace." + told.group(2) : told.group(2);
                String name = told.group(1).replace("\"", "'");
                code.append("names.add(\"").append(name).append("\"); answers.add(").append(told.group(1))
                    .append("); answers.add(").append(want).append(");\n");
            } else {
                code.append(line).append('\n');
            }
        }
        List<String> names = new ArrayList<>();
        List<Integer> answers = new ArrayList<>();
        runCompiled(code.append("}\n}\n").toString(), names, answers);
        so("README tells answers", names.size() > 50);
        for (int k = 0; k < names.size(); k++) {
            C.due("README: " + names.get(k), answers.get(2 * k), answers.get(2 * k + 1));
        }
    }

    private static void runCompiled(String code, List<String> names, List<Integer> answers) throws Exception {
        Path out = Files.createTempDirectory("readme");
        Path source = out.resolve("ReadmeCalls.java");
        Files.writeString(source, code);
        JavaCompiler compiler = ToolProvider.getSystemJavaCompiler();
        int exit = compiler.run(null, null, null, "-cp", System.getProperty("java.class.path"), "-d", out.toString(), source.toString());
        C.due("the calls of README are compiled", exit, 0);
        if (exit == 0) {
            try (URLClassLoader loader = new URLClassLoader(new URL[] {out.toUri().toURL()}, WarmPlace.class.getClassLoader())) {
                loader.loadClass("ReadmeCalls").getMethod("run", List.class, List.class).invoke(null, names, answers);
            }
        }
        Files.deleteIfExists(out.resolve("ReadmeCalls.class"));
        Files.delete(source);
        Files.delete(out);
    }

    /** The groups are those of the document: "Ahead of the calls `feed`, .. the interface says: ---- the bed." */
    private static void callsAreInTheirGroups(String readme) throws IOException {
        Matcher group = Pattern.compile("Ahead of the calls (`.*`) the interface says").matcher(Files.readString(Path.of("../shared/DOC.md")));
        int groups = 0;
        while (group.find()) {
            groups++;
            so("README has the group (" + group.group(1) + ")", readme.contains("(" + group.group(1) + ")"));
        }
        C.due("groups", groups, 5);
    }

    /** Each test of the project is named, and no test is named that there is not. */
    private static void testsAreNamed(String readme) throws IOException {
        Set<String> named = new TreeSet<>();
        Matcher name = Pattern.compile("`(\\w+Test)`").matcher(readme);
        while (name.find()) {
            named.add(name.group(1));
        }
        Set<String> found = new TreeSet<>();
        try (var files = Files.list(Path.of("src/test/java"))) {
            files.map(f -> f.getFileName().toString()).filter(f -> f.endsWith("Test.java")).forEach(f -> found.add(f.replace(".java", "")));
        }
        so("README names " + named + ", there are " + found, named.equals(found));
        Matcher numbered = Pattern.compile("`(p\\d\\d_\\w+)`").matcher(readme);
        so("README shows a numbered test", numbered.find());
        so(numbered.group(1) + " is there", Check.numbered(BedEdgeTest.class).stream().anyMatch(m -> m.getName().equals(numbered.group(1))));
    }

    /** What "How it is built" names are the classes inside, all of them. */
    private static void classesAreNamed(String readme) {
        Matcher built = Pattern.compile("(?s)## How it is built(.*?)\n## ").matcher(readme);
        so("README says how it is built", built.find());
        Set<String> named = new TreeSet<>();
        Matcher name = Pattern.compile("`([A-Z]\\w+)(\\.\\w+)?`").matcher(built.group(1));
        while (name.find()) {
            named.add(name.group(1));
        }
        Set<String> found = new TreeSet<>();
        for (Class<?> inside : WarmPlace.class.getDeclaredClasses()) {
            found.add(inside.getSimpleName());
        }
        so("README names " + named + ", there are " + found, named.equals(found));
    }

    /** The first command is .ci/run (which runs this test); the others do as it does and work. */
    private static void commands(List<String> commands) throws IOException, InterruptedException {
        C.due("commands", commands.size(), 4);
        so(".ci/run comes first", commands.get(0).equals(".ci/run"));
        so(".ci/run can be run", Files.isExecutable(Path.of(".ci/run")));
        String ci = Files.readString(Path.of(".ci/run"));
        so(".ci/run compiles so: " + commands.get(2), ci.contains(commands.get(2).replace("\"$OUT\"", "\"$OUT/own\"")));
        List<String> others = commands.subList(1, commands.size());
        String script = "set -e\n" + String.join("\n", others) + "\nrm -rf \"$OUT\"\n";
        Process p = new ProcessBuilder("sh", "-c", script).redirectErrorStream(true).start();
        String said = new String(p.getInputStream().readAllBytes());
        C.due("the commands of README end with (" + said.trim() + ")", p.waitFor(), 0);
        so("the commands of README say " + said.trim(), said.contains("ModelTest: all answers are as due"));
    }
}
