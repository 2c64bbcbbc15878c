import java.lang.reflect.Field;
import java.lang.reflect.Method;
import java.lang.reflect.Modifier;
import java.util.regex.Matcher;
import java.util.regex.Pattern;

/** What the document says ahead of its promises, its public face, NONE, and promise 1: a new object. */
final class FaceEdges {
    private static final int NONE = ThreePhases.NONE;

    private FaceEdges() {
    }

    static void all() {
        calls();
        face();
        constants();
        fresh();
    }

    private static void calls() {
        Doc.about("What it is");
        Doc.says("An object is used for at most 512 calls after it has been made; what later calls answer is free.");
        ThreePhases x = new ThreePhases();
        for (int call = 1; call <= 508; call++) {
            x.image(call % 3);
        }
        x.feed(0x73746570, 0x20333b20, 0x20202020, 0x20202020, 0x20202020);
        Kit.due("text(0, NONE) as the 510th call", x.text(0, NONE), 0);
        Kit.due("again(0) as the 511th call", x.again(0), true);
        Kit.due("count(0) as the 512th call", x.count(0), 0);
    }

    private static void face() {
        Doc.about("The public face");
        String[] lines = Doc.textOf("The public face").split("(?<=[{;]) ");
        for (String line : lines) {
            if (line.equals("}")) {
                continue;
            }
            Doc.says(line);
            Kit.due(line, hasLine(line), true);
        }
        Kit.due("lines of the face", lines.length, 33);
    }

    private static boolean hasLine(String line) {
        Class<?> face = ThreePhases.class;
        Matcher method = Pattern.compile("public (\\w+) (\\w+)\\((.*)\\);").matcher(line);
        if (method.matches()) {
            return hasMethod(method.group(1), method.group(2), method.group(3));
        }
        if (line.equals("public ThreePhases();")) {
            return face.getDeclaredConstructors().length == 1 && face.getConstructors().length == 1
                && face.getConstructors()[0].getParameterCount() == 0;
        }
        if (line.startsWith("public final class")) {
            return Modifier.isPublic(face.getModifiers()) && Modifier.isFinal(face.getModifiers())
                && face.getName().equals("ThreePhases");
        }
        return line.equals("public static final int NONE = -1;") && hasNone();
    }

    private static boolean hasNone() {
        int found = 0;
        for (Field f : ThreePhases.class.getFields()) {
            boolean constant = Modifier.isStatic(f.getModifiers()) && Modifier.isFinal(f.getModifiers());
            found += constant && f.getName().equals("NONE") && f.getType() == int.class ? 1 : 100;
        }
        return found == 1 && ThreePhases.NONE == -1;
    }

    private static boolean hasMethod(String answer, String name, String parameters) {
        String kinds = parameters.replaceAll("(\\w+) \\w+", "$1");
        for (Method m : ThreePhases.class.getDeclaredMethods()) {
            StringBuilder own = new StringBuilder();
            for (Class<?> kind : m.getParameterTypes()) {
                own.append(own.length() == 0 ? "" : ", ").append(kind.getName());
            }
            if (m.getName().equals(name) && own.toString().equals(kinds)) {
                return m.getModifiers() == Modifier.PUBLIC && m.getReturnType().getName().equals(answer);
            }
        }
        return false;
    }

    private static void constants() {
        Doc.about("Constants");
        Doc.says("The constants: `NONE = -1`: There is none.");
        Kit.due("NONE", NONE, -1);
    }

    private static void fresh() {
        Doc.about("Promise 1");
        Doc.says("No COUNCILS, RUNS, REPLIES;");
        ThreePhases x = new ThreePhases();
        for (int sort = 0; sort < 3; sort++) {
            Kit.due("count(" + sort + ")", x.count(sort), 0);
        }
        Kit.due("council(0, 0)", x.council(0, 0), NONE);
        Kit.due("deed(0, NONE, 0)", x.deed(0, NONE, 0), -2);
        Kit.due("reply(0, NONE, 0)", x.reply(0, NONE, 0), -2);
        Kit.due("quorum(0, 0)", x.quorum(0, 0), -2);
        Kit.due("drawn(0, 1, 0, 0, 0)", x.drawn(0, 1, 0, 0, 0), -2);
        Kit.due("the tape is empty", x.end(1), NONE);
        Kit.due("no FAULT", x.fault(0), 0);
        Kit.due("no FAULT's place", x.fault(1), NONE);
        Doc.says("no images.");
        for (int k = 0; k < 3; k++) {
            Kit.due("again(" + k + ")", x.again(k), false);
        }
    }
}
