import java.io.IOException;
import java.nio.file.Files;
import java.nio.file.Path;
import java.util.ArrayList;
import java.util.Comparator;
import java.util.List;

/** .ci/run on small projects: it runs every test, those under ../shared/tests too, and fails if one fails. */
public final class CiRunTest {
    private static final Check C = new Check();
    private static final String GOOD = "{ System.out.println(\"ran\"); }";
    private static final String BAD = "{ System.exit(1); }";
    private static final String THROWS = "{ throw new IllegalStateException(); }";
    private static final String NO_JAVA = "{ nothing }";

    private Path root;
    private String said;

    public static void main(String[] args) throws Exception {
        new CiRunTest().play("all are good", 0, GOOD, GOOD, GOOD, GOOD);
        new CiRunTest().play("the first own one is bad", 1, BAD, GOOD, GOOD, GOOD);
        new CiRunTest().play("the last own one throws", 1, GOOD, THROWS, GOOD, GOOD);
        new CiRunTest().play("the first shared one is bad", 1, GOOD, GOOD, BAD, GOOD);
        new CiRunTest().play("the last shared one is not compiled", 1, GOOD, GOOD, GOOD, NO_JAVA);
        new CiRunTest().play("an own one is not compiled", 1, NO_JAVA, GOOD, GOOD, GOOD);
        new CiRunTest().play("there is no shared one", 1, GOOD, GOOD);
        C.end("CiRunTest");
    }

    /** Bodies of main: of two own tests, then of the shared ones. */
    private void play(String what, int exit, String... bodies) throws IOException, InterruptedException {
        root = Files.createTempDirectory("cirun");
        Path main = root.resolve("main");
        Files.createDirectories(main.resolve(".ci"));
        Files.copy(Path.of(".ci/run"), main.resolve(".ci/run"), java.nio.file.StandardCopyOption.COPY_ATTRIBUTES);
        write("main/src/main/java/WarmPlace.java", "public final class WarmPlace { }\n");
        List<String> names = new ArrayList<>();
        for (int k = 0; k < bodies.length; k++) {
            String name = k < 2 ? "Own" + k + "Test" : "Shared" + k;
            names.add(name);
            String code = "public final class " + name + " { public static void main(String[] a) " + bodies[k] + " }\n";
            write((k < 2 ? "main/src/test/java/" : "shared/tests/") + name + ".java", code);
        }
        Process p = new ProcessBuilder("sh", main.resolve(".ci/run").toString()).directory(root.toFile()).redirectErrorStream(true).start();
        said = new String(p.getInputStream().readAllBytes());
        C.due(what + ": .ci/run ends", p.waitFor(), exit);
        for (int k = 0; k < bodies.length && !bodies[0].equals(NO_JAVA); k++) {
            said(what, bodies[k].equals(GOOD) ? "passed: " + names.get(k) + "\n" : "FAILED: " + names.get(k));
        }
        clear();
    }

    private void said(String what, String line) {
        C.due(what + ": .ci/run says '" + line.trim() + "'", said.contains(line) ? 1 : 0, 1);
    }

    private void write(String file, String text) throws IOException {
        Path path = root.resolve(file);
        Files.createDirectories(path.getParent());
        Files.writeString(path, text);
    }

    private void clear() throws IOException {
        List<Path> all;
        try (var walk = Files.walk(root)) {
            all = walk.sorted(Comparator.reverseOrder()).toList();
        }
        for (Path path : all) {
            Files.delete(path);
        }
    }
}
