import java.util.ArrayList;
import java.util.List;
import java.util.Random;
import java.util.Set;
import java.util.TreeSet;

/** Promises 8 to 11 and 19 to 22: the class and the model answer alike, for COUNCILS and RUNS by a seed. */
public final class ModelTest {
    private static final int NONE = ThreePhases.NONE;
    private static final String[] WORDS =
        {"propose", "prepare", "commit", "run", "mark", "fetch", "doubt", "view", "enter"};
    private static final int[] NUMBERS = {3, 3, 3, 1, 2, 2, 1, 1, 1};
    private static final int[] seen = new int[9];

    private record Deed(int kind, int a, int b, int c) {
        String text() {
            int[] all = {a, b, c};
            StringBuilder t = new StringBuilder(WORDS[kind]);
            for (int k = 0; k < NUMBERS[kind]; k++) {
                t.append(' ').append(all[k]);
            }
            return t.append(';').toString();
        }
    }

    private record Shape(int faults, int window, int step, Set<Integer> liars, List<Integer> accounts, int[][] orders) {
        Model model() {
            return new Model(faults, window, step, liars, accounts, orders);
        }
    }

    public static void main(String[] args) {
        Random random = new Random(7);
        for (int k = 0; k < 300; k++) {
            drawn(shape(random, random.nextInt(3)), random);
        }
        for (int k = 0; k < 1500; k++) {
            run(shape(random, k % 10 == 0 ? 2 : k % 10 == 1 ? 0 : 1), random, k % 4);
        }
        for (int kind = 0; kind < 9; kind++) {
            Kit.due("enough of " + WORDS[kind], seen[kind] > 50, true);
        }
        Kit.finish("ModelTest");
    }

    private static Shape shape(Random random, int faults) {
        Set<Integer> liars = new TreeSet<>();
        int many = random.nextInt(faults + 2);
        for (int k = 0; k < many && random.nextInt(3) > 0; k++) {
            liars.add(random.nextInt(3 * faults + 1));
        }
        List<Integer> accounts = new ArrayList<>();
        for (int a = 0; a < 8; a++) {
            accounts.add(random.nextInt(100));
        }
        int[][] orders = new int[random.nextInt(8) == 0 ? random.nextInt(3) : 2 + random.nextInt(9)][];
        for (int k = 0; k < orders.length; k++) {
            orders[k] = new int[] {random.nextInt(8), random.nextInt(100)};
        }
        return new Shape(faults, 1 + random.nextInt(9), 1 + random.nextInt(1 + random.nextInt(4)), liars, accounts, orders);
    }

    private static List<Integer> whats() {
        List<Integer> list = new ArrayList<>(List.of(0, 1, 2, 3, 4, 5, 6));
        for (int a = 0; a < 8; a++) {
            list.add(10 + a);
        }
        for (int s = 1; s <= 12; s++) {
            for (int k = 0; k < 8; k++) {
                list.add(100 * s + k);
            }
        }
        return list;
    }

    private static void drawn(Shape shape, Random random) {
        ThreePhases x = Kit.with(shape.model().text());
        int seed = random.nextInt();
        int n = random.nextInt(10) == 0 ? random.nextInt(201) : 200;
        Model model = shape.model();
        model.draw(seed, n);
        for (int m = 0; m < model.peers.length; m++) {
            for (int what : whats()) {
                Kit.due("drawn " + shape + " seed " + seed + " member " + m + " what " + what,
                    x.drawn(0, seed, n, m, what), model.state(m, what));
            }
        }
    }

    /** A DEED that may be, done by the model; most often one that leads far, so that logs are cut. */
    private static Deed next(Model model, Random random, int places) {
        int[] farFirst = {5, 8, 4, 7, 3, 2, 1, 0};
        boolean far = random.nextInt(12) > 0;
        for (int tries = 0; tries < 3000; tries++) {
            int kind = far && tries < 800 ? farFirst[tries / 100] : random.nextInt(9);
            int a = random.nextInt(model.peers.length);
            int b = model.peers.length == 1 ? 1 : (a + 1 + random.nextInt(model.peers.length - 1)) % model.peers.length;
            Deed deed = new Deed(kind, a, b, 1 + random.nextInt(places));
            if (kind == 0) {
                deed = new Deed(0, a, 1 + random.nextInt(places), random.nextInt(6) == 0 ? random.nextInt(10) : 0);
            }
            if (model.act(deed.kind, deed.a, deed.b, deed.c)) {
                return deed;
            }
        }
        return null;
    }

    private static void run(Shape shape, Random random, int places) {
        Model model = shape.model();
        List<Deed> deeds = new ArrayList<>();
        StringBuilder text = new StringBuilder();
        int stop = random.nextInt(6) == 0 ? random.nextInt(40) : 40;
        while (deeds.size() < stop) {
            Deed deed = next(model, random, 1 + places);
            if (deed == null) {
                break;
            }
            seen[deed.kind]++;
            deeds.add(deed);
            text.append(deed.text());
        }
        Kit.due("the text is not too long", text.length() <= 600, true);
        ThreePhases x = Kit.with(model.text(), text.toString());
        Kit.due("the run is read: " + text, x.fault(0), 0);
        Kit.due("stop of " + text, x.stop(0, 0), deeds.size());
        ends(x, model, text.toString());
        int n = random.nextInt(deeds.size() + 1);
        Model part = shape.model();
        for (int k = 0; k < n; k++) {
            Deed d = deeds.get(k);
            part.act(d.kind, d.a, d.b, d.c);
        }
        states(x, part, n, text.toString());
        states(x, model, deeds.size(), text.toString());
        Kit.due("no STATE behind STOP", x.state(0, 0, deeds.size() + 1, 0, 0), -2);
    }

    private static void ends(ThreePhases x, Model model, String text) {
        for (int what = 0; what < 4; what++) {
            Kit.due("unlike " + what + " of " + text, x.unlike(0, 0, what), model.unlike(what));
        }
        for (int what = 0; what < 6; what++) {
            Kit.due("after " + what + " of " + text, x.after(0, 0, what), model.after(what));
        }
    }

    private static void states(ThreePhases x, Model model, int n, String text) {
        for (int m = 0; m < model.peers.length; m++) {
            for (int what : whats()) {
                Kit.due("state " + n + " " + m + " " + what + " of " + text, x.state(0, 0, n, m, what),
                    model.state(m, what));
            }
        }
        for (int v = 1; v <= 9; v++) {
            Model.MadeView made = model.views.get(v);
            Kit.due("made " + v, x.made(0, 0, n, v, 0), made == null ? 0 : 1);
            Kit.due("FROM " + v, x.made(0, 0, n, v, 1), made == null ? NONE : made.from());
            Kit.due("UPTO " + v, x.made(0, 0, n, v, 2), made == null ? NONE : made.upto());
            for (int s = 1; s <= 12; s++) {
                Kit.due("its ORDER at " + s, x.made(0, 0, n, v, 10 + s),
                    made == null ? NONE : made.orders().getOrDefault(s, NONE));
            }
        }
        for (int set = 1; set < 1 << model.peers.length; set++) {
            Model.MadeView v = model.merge(Model.membersOf(set));
            Kit.due("merged FROM", x.merged(0, 0, n, set, 0), v.from());
            Kit.due("merged UPTO", x.merged(0, 0, n, set, 1), v.upto());
            for (int s = 1; s <= 12; s++) {
                Kit.due("merged ORDER", x.merged(0, 0, n, set, 10 + s), v.orders().getOrDefault(s, NONE));
            }
        }
        for (int s = 1; s <= 12; s++) {
            Kit.due("SURE " + n + " at " + s + " of " + text, x.sure(0, 0, n, s, false), model.sure(s, false));
            Kit.due("LOST " + n + " at " + s + " of " + text, x.sure(0, 0, n, s, true), model.sure(s, true));
        }
    }
}
