import java.io.IOException;
import java.lang.reflect.Constructor;
import java.lang.reflect.Field;
import java.lang.reflect.Method;
import java.lang.reflect.Modifier;
import java.nio.file.Files;
import java.nio.file.Path;
import java.util.Set;
import java.util.TreeSet;
import java.util.regex.Matcher;
import java.util.regex.Pattern;

/** The public face of the document, and the rules of LANGUAGE.md that can be seen from outside. */
public final class FaceTest {
    private static final Check C = new Check();
    private static final String[] METHODS = {"feed 1", "bed 0", "fault 0", "told 1", "place 2", "sleeper 2", "rule 1", "hour 1",
        "night 1", "getUp 1", "comeIn 1", "drift 1", "undo 1", "firstAwake 1", "turnsFor 2", "rhyme 2", "laid 2", "change 1",
        "steady 1", "twoBeds 1", "nobodyUp 2", "morning 2", "counted 2", "sure 1", "write 1", "judge 1", "tear 0", "seed 1",
        "keep 1", "goBack 1"};
    private static final String[] RULED_OUT = {"throw", "try", "catch", "synchronized", "assert", "import", "package", "native",
        "volatile", "System\\.(?!arraycopy)", "->", "::", "Exact", "hashCode", "toString", "new Object", "String", "Thread"};

    public static void main(String[] args) throws IOException {
        constants();
        members();
        source();
        noRoom();
        C.end("FaceTest");
    }

    private static void constants() {
        C.due("NONE", WarmPlace.NONE, -1);
        C.due("UNKNOWN", WarmPlace.UNKNOWN, -1000000001);
        C.due("OUTSIDE", WarmPlace.OUTSIDE, -1000000002);
        C.due("NOT", WarmPlace.NOT, -1000000003);
        C.due("FULL", WarmPlace.FULL, -1000000004);
    }

    private static void members() {
        Class<?> face = WarmPlace.class;
        C.due("public and final", face.getModifiers(), Modifier.PUBLIC | Modifier.FINAL);
        Constructor<?>[] made = face.getDeclaredConstructors();
        C.due("constructors", made.length, 1);
        C.due("the constructor's parameters", made[0].getParameterCount(), 0);
        Set<String> due = new TreeSet<>(Set.of(METHODS));
        Set<String> found = new TreeSet<>();
        Set<String> names = new TreeSet<>();
        for (Method m : face.getDeclaredMethods()) {
            if (Modifier.isPublic(m.getModifiers())) {
                found.add(m.getName() + " " + m.getParameterCount());
                names.add(m.getName());
                C.due(m.getName() + " answers an int", m.getReturnType() == int.class ? 1 : 0, 1);
                C.due(m.getName() + " is not static", Modifier.isStatic(m.getModifiers()) ? 1 : 0, 0);
            } else if (!m.isSynthetic()) {
                C.due(m.getName() + " is private", Modifier.isPrivate(m.getModifiers()) ? 1 : 0, 1);
            }
        }
        C.due("the methods " + found, found.equals(due) ? 1 : 0, 1);
        fields(face);
        int classes = 1;
        for (Class<?> inside : face.getDeclaredClasses()) {
            classes++;
            C.due(inside + " is static", Modifier.isStatic(inside.getModifiers()) ? 1 : 0, 1);
            for (Method m : inside.getDeclaredMethods()) {
                C.due(inside + " has a name of the face: " + m.getName(), names.contains(m.getName()) ? 1 : 0, 0);
            }
            fields(inside);
        }
        C.due("at most twelve classes", classes <= 12 ? 1 : 0, 1);
    }

    private static void fields(Class<?> in) {
        int count = 0;
        for (Field f : in.getDeclaredFields()) {
            boolean fixed = Modifier.isStatic(f.getModifiers());
            count += fixed ? 0 : 1;
            C.due(f + ": static fields are final", fixed && !Modifier.isFinal(f.getModifiers()) ? 1 : 0, 0);
            boolean constant = Set.of("NONE", "UNKNOWN", "OUTSIDE", "NOT", "FULL").contains(f.getName());
            if (in == WarmPlace.class) {
                C.due(f + ": public or private", Modifier.isPublic(f.getModifiers()) == constant ? 1 : 0, 1);
                C.due(f + ": public or private", Modifier.isPrivate(f.getModifiers()) != constant ? 1 : 0, 1);
            }
        }
        C.due(in + " has at most twenty fields", count <= 20 ? 1 : 0, 1);
    }

    private static void source() throws IOException {
        String text = Files.readString(Path.of("src/main/java/WarmPlace.java"));
        String code = text.replaceAll("(?s)/\\*.*?\\*/", "").replaceAll("//[^\n]*", "");
        for (String word : RULED_OUT) {
            Matcher found = Pattern.compile(word.matches("[a-z]+") ? "\\b" + word + "\\b" : word).matcher(code);
            C.due("the source has '" + word + "'", found.find() ? 1 : 0, 0);
        }
        // a method begins at four or eight blanks and ends with a brace at as many
        Matcher method = Pattern.compile("(?m)^( {4}| {8})(?! )[^=\n;]*\\([^;\n]*\\) \\{\n((?:(?!\\1\\}).*\n)*)\\1\\}").matcher(text);
        int methods = 0;
        while (method.find()) {
            methods++;
            String head = method.group().substring(0, method.group().indexOf('\n'));
            C.due(head.trim() + " has at most sixty lines", method.group().lines().count() <= 60 ? 1 : 0, 1);
            C.due(head.trim() + " has at most seven parameters", head.chars().filter(c -> c == ',').count() <= 6 ? 1 : 0, 1);
        }
        C.due("methods were found", methods > 80 ? 1 : 0, 1);
    }

    /** No call makes an object: 'new' stands in constructors and beside fields alone. */
    private static void noRoom() throws IOException {
        String where = "";
        for (String line : Files.readAllLines(Path.of("src/main/java/WarmPlace.java"))) {
            if (line.matches(" {4,8}\\S.*\\) \\{") && !line.matches(" *(if|for|while|switch) .*")) {
                where = line.trim();
            } else if (line.matches(" {4,8}\\}")) {
                where = "";
            }
            boolean constructor = where.matches("(public )?[A-Z]\\w+\\(.*");
            C.due("an object is made in " + where, line.contains(" new ") && !where.isEmpty() && !constructor ? 1 : 0, 0);
        }
    }
}
