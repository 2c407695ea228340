import java.io.IOException;
import java.lang.reflect.Field;
import java.lang.reflect.Member;
import java.lang.reflect.Method;
import java.lang.reflect.Modifier;
import java.nio.charset.StandardCharsets;
import java.nio.file.Files;
import java.nio.file.Path;
import java.util.ArrayList;
import java.util.List;
import java.util.Set;
import java.util.TreeSet;
import java.util.regex.Matcher;
import java.util.regex.Pattern;

/** The document's face, as the class has it, and how little a run of calls makes; the argument: the document. */
public final class RulesTest {
    private static int wrong = 0;

    private static void due(boolean so, String what) {
        if (!so) {
            wrong++;
            System.out.println("not so: " + what);
        }
    }

    private static void face(String document) throws Exception {
        Set<String> want = new TreeSet<>();
        Matcher line = Pattern.compile("(?m)^    public (int|long) (\\w+)\\((.*?)\\);$").matcher(document);
        while (line.find()) {
            want.add(line.group(1) + " " + line.group(2) + "(" + line.group(3).replaceAll(" \\w+(, |$)", "$1") + ")");
        }
        Set<String> got = new TreeSet<>();
        Set<String> hidden = new TreeSet<>();
        for (Method m : SomebodysLift.class.getDeclaredMethods()) {
            List<String> types = new ArrayList<>();
            for (Class<?> type : m.getParameterTypes()) {
                types.add(type.getName());
            }
            if (Modifier.isPublic(m.getModifiers())) {
                got.add(m.getReturnType() + " " + m.getName() + "(" + String.join(", ", types) + ")");
            } else {
                due(Modifier.isPrivate(m.getModifiers()), "private: " + m);
                hidden.add(m.getName());
            }
        }
        due(want.size() > 40 && want.equals(got), "the face: " + want + " " + got);
        for (Class<?> inside : SomebodysLift.class.getDeclaredClasses()) {
            due(Modifier.isStatic(inside.getModifiers()) && !Modifier.isPublic(inside.getModifiers()), "static: " + inside);
            for (Method m : inside.getDeclaredMethods()) {
                hidden.add(m.getName());
            }
            due(ownFields(inside) <= 24, "some twenty fields: " + inside);
        }
        for (String signature : want) {
            due(!hidden.contains(signature.replaceAll(".* |\\(.*", "")), "not hidden: " + signature);
        }
        due(ownFields(SomebodysLift.class) <= 24, "some twenty fields");
        due(SomebodysLift.class.getDeclaredClasses().length <= 14, "some twelve classes");
        constants();
    }

    private static int ownFields(Class<?> it) {
        int n = 0;
        for (Field f : it.getDeclaredFields()) {
            n += Modifier.isStatic(f.getModifiers()) ? 0 : 1;
        }
        return n;
    }

    private static void constants() {
        Set<String> open = new TreeSet<>();
        for (Member f : SomebodysLift.class.getDeclaredFields()) {
            if (!Modifier.isPrivate(f.getModifiers())) {
                open.add(Modifier.toString(f.getModifiers()) + " " + f.getName());
            }
        }
        Set<String> want = new TreeSet<>();
        for (String name : new String[] {"NONE", "BAD", "STATE", "FULL", "NO"}) {
            want.add("public static final " + name);
        }
        due(open.equals(want), "the constants: " + open);
        due(Modifier.toString(SomebodysLift.class.getModifiers()).equals("public final"), "public and final");
    }

    /** A run of 512 calls on a new object, those that have the most to do among them. */
    private static void run() {
        SomebodysLift x = new SomebodysLift();
        for (int i = 0; i < 6; i++) {
            x.lift(6 - i, i, i, i);
        }
        for (int n = 0; n < 46; n++) {
            x.best(0);
            x.two(1, 0);
            x.worth(0);
            x.image();
            x.undo();
            x.act(0, 2, 5);
            x.feed('u');
            x.air();
            x.tape(0, 3, 60);
            x.odds(1, 60, 0);
            x.who();
        }
    }

    /** What a run makes, in bytes: there is room for 600,000 objects and arrays, and the least has 16. */
    private static void room() {
        com.sun.management.ThreadMXBean machine =
            (com.sun.management.ThreadMXBean) java.lang.management.ManagementFactory.getThreadMXBean();
        long before = 0;
        for (int round = 0; round < 3; round++) {
            before = machine.getCurrentThreadAllocatedBytes();
            run();
        }
        long made = machine.getCurrentThreadAllocatedBytes() - before;
        due(made < 600000 * 16, "a run makes little: " + made + " bytes");
    }

    private static String text(String path) throws IOException {
        return new String(Files.readAllBytes(Path.of(path)), StandardCharsets.ISO_8859_1);
    }

    public static void main(String[] args) throws Exception {
        face(text(args[0]));
        room();
        System.out.println(wrong == 0 ? "the rules are kept" : wrong + " rules are not kept");
        if (wrong != 0) {
            System.exit(1);
        }
    }
}
