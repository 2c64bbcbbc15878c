import java.lang.reflect.Field;
import java.lang.reflect.Method;
import java.lang.reflect.Modifier;
import java.util.Set;
import java.util.TreeSet;
import java.util.Random;

/** Promise 1 and the public face; no call throws, whatever it is given in whatever state. */
public final class FaceTest {
    private static final String[] FACE = {"feed 5", "end 1", "text 2", "fault 1", "council 2", "deed 3", "stop 2",
        "state 5", "made 5", "unlike 3", "quorum 2", "tree 2", "differ 3", "play 4", "reply 3", "match 3",
        "suspects 3", "drawn 5", "merged 5", "sure 5", "after 3", "pace 2", "behind 3", "blind 2", "voices 3",
        "lack 3", "count 1", "image 1", "again 1"};
    private static final String[] COUNCILS = {"", "faults 0;order 1 2;", "faults 2;liar 1;order 0 1;order 7 99;",
        "liar 0;", "liar 0;liar 1;liar 2;liar 3;order 0 1;", "step 1;window 1;order 0 1;order 0 2;", "step 9;", "odd"};
    private static final String[] RUNS = {"", "propose 0 1 0;run 0;", "doubt 0;doubt 1;doubt 2;view 1;enter 3;",
        "propose 6 12 9;", "mark 0 1;", "propose 0 1 0;propose 1 1 0;prepare 1 0 1;", "fetch 1 1;", "run"};
    private static final String[] REPLIES = {"", "reply 0 0 0;", "reply 6 9 99;reply 5 9 99;reply 4 1 1;", "reply 7 7 7;"};

    public static void main(String[] args) throws ReflectiveOperationException {
        face();
        for (int seed = 0; seed < 300; seed++) {
            anything(new Random(seed));
        }
        Kit.finish("FaceTest");
    }

    private static void face() throws ReflectiveOperationException {
        Set<String> due = new TreeSet<>(Set.of(FACE));
        Set<String> got = new TreeSet<>();
        Set<String> hidden = new TreeSet<>();
        for (Method m : ThreePhases.class.getDeclaredMethods()) {
            if (Modifier.isPrivate(m.getModifiers())) {
                hidden.add(m.getName());
                continue;
            }
            got.add(m.getName() + " " + m.getParameterCount());
            Kit.due(m + " is public", Modifier.isPublic(m.getModifiers()), true);
        }
        Kit.due("the methods " + got, got.equals(due), true);
        for (String method : FACE) {
            Kit.due("a private " + method, hidden.contains(method.substring(0, method.indexOf(' '))), false);
        }
        for (Field f : ThreePhases.class.getDeclaredFields()) {
            Kit.due("the field " + f.getName(), Modifier.isPrivate(f.getModifiers()), !f.getName().equals("NONE"));
        }
        Kit.due("final", Modifier.isFinal(ThreePhases.class.getModifiers()), true);
        Kit.due("one constructor", ThreePhases.class.getDeclaredConstructors().length, 1);
        Kit.due("NONE", ThreePhases.NONE, -1);
    }

    private static int number(Random random) {
        switch (random.nextInt(8)) {
            case 0: return random.nextInt();
            case 1: return random.nextInt(2) == 0 ? Integer.MIN_VALUE : Integer.MAX_VALUE;
            case 2: return random.nextInt(1300);
            case 3: return 10 + random.nextInt(20);
            case 4: return -random.nextInt(4);
            default: return random.nextInt(5);
        }
    }

    private static void anything(Random random) throws ReflectiveOperationException {
        ThreePhases x = new ThreePhases();
        Method[] methods = ThreePhases.class.getMethods();
        for (int calls = 0; calls < 500; calls++) {
            if (random.nextInt(40) == 0) {
                x.end(0);
                String[][] texts = {COUNCILS, RUNS, REPLIES};
                int sort = random.nextInt(3);
                Kit.tell(x, sort, random.nextInt(3) - 1, texts[sort][random.nextInt(texts[sort].length)]);
            }
            Method m = methods[random.nextInt(methods.length)];
            if (m.getDeclaringClass() != ThreePhases.class) {
                continue;
            }
            Object[] values = new Object[m.getParameterCount()];
            for (int k = 0; k < values.length; k++) {
                boolean truth = m.getParameterTypes()[k] == boolean.class;
                values[k] = truth ? (Object) random.nextBoolean() : (Object) number(random);
            }
            Kit.due("a call", m.invoke(x, values) != null, true);
        }
    }
}
