import java.io.IOException;
import java.lang.reflect.Constructor;
import java.lang.reflect.Field;
import java.lang.reflect.Method;
import java.lang.reflect.Modifier;
import java.nio.file.Files;
import java.nio.file.Path;
import java.util.ArrayList;
import java.util.Collections;
import java.util.HashSet;
import java.util.List;
import java.util.Set;

/** The face is the document's and no more, and the source keeps to rules that can be seen in it. */
public final class FaceTest {
    private static final String[] FACE = {
        "boolean memory(int)", "int feed(int,int,int,int,int)", "boolean end(int)", "int views()",
        "int script()", "int fault(int)", "int trouble(int)", "int view(int,int)", "int named()",
        "long read(int,int)", "long peek(int,int)", "long field(int,int,int)",
        "boolean write(int,int,long)", "boolean writeFloat(int,int,long)", "int at(int)",
        "boolean poke(int,int)", "int changed(int)", "int seen(int,int)", "int over(int,int)",
        "int here(int)", "int copy(int,int)", "boolean turn(int)", "boolean sort(int)",
        "int fill(int,long)", "boolean roll(int,int)", "int show(int)", "int out(int)",
        "int find(int,int,long)", "long sum(int)", "long rest(int,int,long)", "boolean undo()",
        "int look(int)"};
    private static final String[] NOT_IN_SOURCE = {"->", "::", "import ", "double ", "float ", "try ",
        "catch", "throw", "finally", "synchronized", "assert ", " + \"", "\" + ", "Exact", "package "};
    private static final int MOST_LINES = 60;

    private FaceTest() {
    }

    public static void main(String[] args) throws IOException {
        members();
        insides();
        source();
        Feeder.finish();
    }

    private static void members() {
        List<String> got = new ArrayList<>();
        for (Method m : ByteViews.class.getDeclaredMethods()) {
            if (!Modifier.isPrivate(m.getModifiers()) && !m.isSynthetic()) {
                StringBuilder s = new StringBuilder(m.getReturnType() + " " + m.getName() + "(");
                for (Class<?> p : m.getParameterTypes()) {
                    s.append(s.charAt(s.length() - 1) == '(' ? "" : ",").append(p);
                }
                got.add(s + ")");
                Feeder.due(m.getName() + " is public", Modifier.isPublic(m.getModifiers()), true);
            }
        }
        List<String> want = new ArrayList<>(List.of(FACE));
        Collections.sort(want);
        Collections.sort(got);
        Feeder.due("the methods", got.toString(), want.toString());
        for (Field f : ByteViews.class.getDeclaredFields()) {
            boolean hidden = Modifier.isPrivate(f.getModifiers()) || f.isSynthetic();
            Feeder.due(f.getName() + " is private or NONE", hidden || f.getName().equals("NONE"), true);
        }
        Constructor<?>[] all = ByteViews.class.getDeclaredConstructors();
        Feeder.due("constructors", all.length, 1);
        Feeder.due("it takes nothing", all[0].getParameterCount(), 0);
        Feeder.due("the class is final", Modifier.isFinal(ByteViews.class.getModifiers()), true);
    }

    private static void insides() {
        Set<String> face = new HashSet<>();
        for (String f : FACE) {
            face.add(f.substring(f.indexOf(' ') + 1, f.indexOf('(')));
        }
        Class<?>[] inside = ByteViews.class.getDeclaredClasses();
        Feeder.due("some twelve classes", inside.length < 12, true);
        for (Class<?> c : inside) {
            Feeder.due(c + " is static", Modifier.isStatic(c.getModifiers()), true);
            int fields = 0;
            for (Field f : c.getDeclaredFields()) {
                boolean fixed = Modifier.isStatic(f.getModifiers());
                fields += fixed ? 0 : 1;
                Feeder.due(f + " is final if static", !fixed || Modifier.isFinal(f.getModifiers()), true);
            }
            Feeder.due(c + " has some twenty fields", fields <= 20, true);
            for (Method m : c.getDeclaredMethods()) {
                Feeder.due(m + " has a name of its own", face.contains(m.getName()), false);
                Feeder.due(m + " has seven parameters at most", m.getParameterCount() <= 7, true);
            }
        }
    }

    private static void source() throws IOException {
        int begin = 0;
        List<String> lines = Files.readAllLines(Path.of("src/main/java/ByteViews.java"));
        for (int n = 0; n < lines.size(); n++) {
            String line = lines.get(n);
            String code = line.trim().startsWith("*") || line.trim().startsWith("/") ? "" : line;
            for (String word : NOT_IN_SOURCE) {
                Feeder.due("line " + (n + 1) + " has " + word, code.contains(word), false);
            }
            String rest = line.trim();
            if (rest.endsWith(") {") && !rest.startsWith("if") && !rest.startsWith("for")
                && !rest.startsWith("}") && !rest.startsWith("while") && !rest.startsWith("switch")) {
                begin = n;
            }
            if (line.equals("    }") || line.equals("        }")) {
                Feeder.due("the method that ends at line " + (n + 1) + " is short",
                    n - begin <= MOST_LINES, true);
                begin = n;
            }
        }
    }
}
