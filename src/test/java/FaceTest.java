import java.io.IOException;
import java.lang.reflect.Constructor;
import java.lang.reflect.Field;
import java.lang.reflect.Method;
import java.lang.reflect.Modifier;
import java.nio.file.Files;
import java.nio.file.Path;
import java.util.Arrays;
import java.util.List;
import java.util.Set;
import java.util.TreeSet;
import java.util.regex.Matcher;
import java.util.regex.Pattern;

/** The face of the document; of LANGUAGE.md what can be seen from the words of the source; that no promise lacks tests of edges. */
public final class FaceTest {
    private static final String[] FACE = {
        "row(int,int,int)", "set(int,int,int)", "copy(int,int,int,int,int)", "drop(int)",
        "feed(long,int)", "market()", "fault()", "take(int,int)", "lay(int,int,int)", "day()", "undo()",
        "ware(int,int)", "buyer(int,int)", "worth(int,int)",
        "best(int,int,int)", "passBy(int,int)", "laid(int,int,int)", "ring(int,int,int)", "line(int,int,int,int)",
        "rots(int,int)", "reach(int,int)", "harvest(int,int)", "judge(int,int,int)",
        "heard(int,int,int,int,int)", "apart(int,int,int)", "image(int)", "restore(int)",
        "kind(int)", "as(int,int)", "ask(int,int)", "trace(int)", "count(int)", "status()",
    };
    /** "Ahead of the calls .. the interface says": each heading, then its calls. */
    private static final String[][] SECTIONS = {
        {"rows", "row", "set", "copy", "drop"},
        {"markets, acts", "feed", "market", "fault", "take", "lay", "day", "undo", "ware", "buyer", "worth"},
        {"foretold", "best", "passBy", "laid", "ring", "line", "rots", "reach", "harvest", "judge", "heard", "apart",
            "image", "restore"},
        {"asked", "kind", "as", "ask", "trace", "count", "status"},
    };
    private static final Set<String> LIBRARY = Set.of("Arrays.fill", "System.arraycopy", "Math.min", "Math.max",
        "Integer.bitCount");

    public static void main(String[] args) throws IOException {
        constants();
        members();
        inside();
        String source = Files.readString(Path.of("src/main/java/HeapEnds.java"));
        sections(source);
        source(source);
        promisesHaveEdges();
        Due.end("FaceTest");
    }

    private static void promisesHaveEdges() throws IOException {
        StringBuilder tests = new StringBuilder();
        for (String of : new String[] {"Terms", "Row", "Text", "Act", "Turn", "Foretold", "Asked"}) {
            tests.append(Files.readString(Path.of("src/test/java/" + of + "EdgesTest.java")));
        }
        for (int promise = 1; promise <= 34; promise++) {
            dueTrue("promise " + promise + " has a sentence that is tested by itself",
                Pattern.compile("sentence\\(\"Promise " + promise + "[, ]").matcher(tests).find());
        }
    }

    private static void dueTrue(String what, boolean is) {
        Due.due(what, is ? 1 : 0, 1);
    }

    private static void constants() {
        Due.due("NONE", HeapEnds.NONE, -1000000);
        Due.due("BAD", HeapEnds.BAD, -1000001);
        Due.due("STATE", HeapEnds.STATE, -1000002);
        Due.due("FULL", HeapEnds.FULL, -1000003);
    }

    private static void members() {
        Class<?> face = HeapEnds.class;
        Due.due("public final", face.getModifiers(), Modifier.PUBLIC | Modifier.FINAL);
        Set<String> due = new TreeSet<>(Arrays.asList(FACE));
        Set<String> got = new TreeSet<>();
        Set<String> names = new TreeSet<>();
        for (Method m : face.getDeclaredMethods()) {
            if (Modifier.isPublic(m.getModifiers())) {
                dueTrue(m.getName() + " gives an int", m.getReturnType() == int.class);
                dueTrue(m.getName() + " is of an object", !Modifier.isStatic(m.getModifiers()));
                StringBuilder s = new StringBuilder(m.getName()).append('(');
                for (Class<?> p : m.getParameterTypes()) {
                    s.append(s.charAt(s.length() - 1) == '(' ? "" : ",").append(p.getName());
                }
                got.add(s.append(')').toString());
                names.add(m.getName());
            }
        }
        dueTrue("the methods are " + due + ", not " + got, due.equals(got));
        for (Method m : face.getDeclaredMethods()) {
            if (!Modifier.isPublic(m.getModifiers())) {
                dueTrue(m.getName() + " is private", Modifier.isPrivate(m.getModifiers()));
                dueTrue(m.getName() + " bears a public name", !names.contains(m.getName()));
            }
        }
        for (Field f : face.getDeclaredFields()) {
            boolean constant = List.of("NONE", "BAD", "STATE", "FULL").contains(f.getName());
            dueTrue(f.getName(), constant ? Modifier.isPublic(f.getModifiers()) : Modifier.isPrivate(f.getModifiers()));
            dueTrue(f.getName() + " is final, where static",
                !Modifier.isStatic(f.getModifiers()) || Modifier.isFinal(f.getModifiers()));
        }
        for (Constructor<?> c : face.getDeclaredConstructors()) {
            Due.due("the constructor's parameters", c.getParameterCount(), 0);
        }
    }

    private static void inside() {
        Class<?>[] classes = HeapEnds.class.getDeclaredClasses();
        dueTrue("some twelve classes", classes.length < 12);
        for (Class<?> c : classes) {
            dueTrue(c + " is static", Modifier.isStatic(c.getModifiers()));
            dueTrue(c + " is not public", !Modifier.isPublic(c.getModifiers()) && !Modifier.isProtected(c.getModifiers()));
            dueTrue(c + " has classes inside", c.getDeclaredClasses().length == 0);
            long fields = Arrays.stream(c.getDeclaredFields()).filter(f -> !Modifier.isStatic(f.getModifiers())).count();
            dueTrue(c + " has " + fields + " fields", fields <= 20);
            for (Method m : c.getDeclaredMethods()) {
                dueTrue(m + " has too many parameters", m.getParameterCount() <= 7);
            }
        }
    }

    private static void sections(String text) {
        int at = 0;
        for (String[] section : SECTIONS) {
            String before = "    // ---- " + section[0] + "\n";
            for (int i = 0; i < section.length; i++) {
                int next = text.indexOf(i == 0 ? before : "public int " + section[i] + "(", at);
                dueTrue("'" + section[i] + "' stands in its order", next >= at);
                at = Math.max(at, next);
            }
        }
    }

    private static void source(String text) {
        String code = text.replaceAll("(?s)/\\*.*?\\*/", "").replaceAll("//[^\n]*", "");
        dueTrue("one import", code.split("\\bimport\\b", -1).length == 2 && code.contains("import java.util.Arrays;"));
        String bare = code.replaceAll("\"[^\"]*\"", "\"\"");
        Matcher word = Pattern.compile("\\b(throw|throws|try|catch|synchronized|assert|package|double|float|"
            + "instanceof|enum|interface|record|var)\\b|->|::|\\bequals\\b|\\bhashCode\\b|\\btoString\\b").matcher(bare);
        while (word.find()) {
            dueTrue("'" + word.group() + "' in the source", false);
        }
        Matcher call = Pattern.compile("\\b(Arrays|System|Math|Integer|Long|String|Character)\\.(\\w+)").matcher(bare);
        while (call.find()) {
            dueTrue(call.group() + " of the library", LIBRARY.contains(call.group()));
        }
        makesNothingInCalls(bare);
        shortMethods(bare);
    }

    /** An object is made by fields as they stand, or in the constructor: the room is for all calls of a run. */
    private static void makesNothingInCalls(String code) {
        for (String line : code.split("\n")) {
            if (line.contains("new ")) {
                boolean field = line.matches(" {4,8}(private )?final .* = new .*;");
                boolean constructor = line.matches(" {12}(rows|images)\\[i\\] = new \\w+\\(\\);");
                dueTrue("made in a call: " + line, field || constructor);
            }
        }
    }

    private static void shortMethods(String code) {
        int begun = -1;
        String[] lines = code.split("\n", -1);
        for (int i = 0; i < lines.length; i++) {
            if (lines[i].matches("( {4}| {8})\\S.*\\) \\{")) {
                begun = i;
            } else if (lines[i].matches("( {4}| {8})\\}") && begun >= 0) {
                dueTrue("longer than 60 lines: " + lines[begun], i - begun <= 60);
                begun = -1;
            }
        }
    }
}
