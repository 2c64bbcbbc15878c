import java.util.ArrayList;
import java.util.List;
import java.util.Random;

/** Promises 12 to 14, 24, 25: quorums, the tree of SUMS, ACCOUNTS behind ORDERS. */
public final class AccountsTest {
    private static final int NONE = ThreePhases.NONE;

    public static void main(String[] args) {
        quorums();
        trees();
        differs();
        behinds();
        blinds();
        collisions();
        Random random = new Random(5);
        for (int k = 0; k < 300; k++) {
            bySeed(random);
        }
        Kit.finish("AccountsTest");
    }

    private static void quorums() {
        int[][] due = {{1, 1, 0, 1}, {3, 4, 0, 4}, {5, 21, 0, 7}};
        for (int faults = 0; faults < 3; faults++) {
            ThreePhases x = Kit.with("faults " + faults + ";");
            for (int what = 0; what < 4; what++) {
                Kit.due("quorum " + what + " of faults " + faults, x.quorum(0, what), due[faults][what]);
            }
        }
        ThreePhases x = Kit.with("liar 0;");
        Kit.due("one LIAR: no CLASHES", x.quorum(0, 2), 0);
        Kit.due("one LIAR: HONEST", x.quorum(0, 3), 3);
        x = Kit.with("liar 0;liar 1;");
        // 012 and 013 meet in 0 and 1 alone; every other couple of quorums has an HONEST one in common.
        Kit.due("two LIARS: one clash", x.quorum(0, 2), 1);
        x = Kit.with("liar 0;liar 1;liar 2;liar 3;");
        Kit.due("all LIARS: every couple", x.quorum(0, 2), 6);
        Kit.due("all LIARS: HONEST", x.quorum(0, 3), 0);
        x = Kit.with("faults 2;liar 6;liar 5;liar 4;");
        // A common part of three that are just 4, 5, 6: 0 to 3 are halved, in 3 ways.
        Kit.due("three LIARS of 7", x.quorum(0, 2), 3);
        Kit.due("quorum 4", x.quorum(0, 4), -2);
        Kit.due("quorum -1", x.quorum(0, -1), -2);
        Kit.due("quorum of none", x.quorum(1, 0), -2);
    }

    private static void trees() {
        ThreePhases x = Kit.with("account 0 99;account 1 98;account 7 5;");
        Kit.due("a leaf", x.tree(0, 8), 99);
        Kit.due("the last leaf", x.tree(0, 15), 5);
        Kit.due("node 4", x.tree(0, 4), 31 * 99 + 17 * 98 + 7);
        Kit.due("node 5", x.tree(0, 5), 7);
        Kit.due("node 7", x.tree(0, 7), 17 * 5 + 7);
        int two = (31 * (31 * 99 + 17 * 98 + 7) + 17 * 7 + 7) % 9973;
        int three = (31 * 7 + 17 * 92 + 7) % 9973;
        Kit.due("node 2", x.tree(0, 2), two);
        Kit.due("node 3", x.tree(0, 3), three);
        Kit.due("the ROOT", x.tree(0, 1), (31 * two + 17 * three + 7) % 9973);
        Kit.due("node 0", x.tree(0, 0), NONE);
        Kit.due("node 16", x.tree(0, 16), NONE);
        Kit.due("node -1", x.tree(0, -1), NONE);
        Kit.due("of none", x.tree(1, 1), NONE);
    }

    private static void differs() {
        ThreePhases x = Kit.with("account 2 1;");
        Kit.tell(x, 0, NONE, "account 2 5;account 3 4;account 7 1;");
        Kit.due("asked", x.differ(0, 1, 0), 11);
        Kit.due("taken", x.differ(0, 1, 1), 4 + 8 + 128);
        Kit.due("alike then", x.differ(0, 1, 2), 1);
        Kit.due("of itself, asked", x.differ(1, 1, 0), 1);
        Kit.due("of itself, taken", x.differ(1, 1, 1), 0);
        Kit.due("of itself, alike", x.differ(1, 1, 2), 1);
        Kit.due("differ 3", x.differ(0, 1, 3), NONE);
        Kit.due("differ -1", x.differ(0, 1, -1), NONE);
        Kit.due("differ of none", x.differ(0, 2, 0), NONE);
        Kit.due("differ of none", x.differ(-1, 0, 0), NONE);
        Kit.due("what is told stays", x.council(0, 12), 1);
    }

    /** 17 more on the left and 31 less on the right leave the SUM above as it was. */
    private static void collisions() {
        ThreePhases x = Kit.with("account 0 10;account 1 40;order 0 17;order 1 69;");
        Kit.tell(x, 0, NONE, "account 0 27;account 1 9;account 6 1;");
        Kit.due("a SUM alike above unlike leaves", x.tree(0, 4) == x.tree(1, 4), true);
        Kit.due("asked", x.differ(0, 1, 0), 7);
        Kit.due("taken", x.differ(0, 1, 1), 64);
        Kit.due("not alike", x.differ(0, 1, 2), 0);
        Kit.due("PATHS: two leaves alone", x.blind(0, 1), 2);
        Kit.due("none is BLIND alone", x.blind(0, 0), 0);
    }

    private static void behinds() {
        ThreePhases x = Kit.with("account 2 50;order 2 30;order 2 20;order 1 7;");
        int[] two = {50, 80, 0, 0};
        for (int k = 0; k <= 3; k++) {
            Kit.due("behind " + k, x.behind(0, k, 12), two[k]);
        }
        Kit.due("behind 2, account 1", x.behind(0, 2, 11), 0);
        Kit.due("behind 3, account 1", x.behind(0, 3, 11), 7);
        Kit.due("ROOT behind 0", x.behind(0, 0, 0), x.tree(0, 1));
        Kit.due("behind 4", x.behind(0, 4, 0), NONE);
        Kit.due("behind -1", x.behind(0, -1, 0), NONE);
        for (int what : new int[] {-1, 1, 9, 18, 100}) {
            Kit.due("behind 0, " + what, x.behind(0, 0, what), NONE);
        }
        Kit.due("behind of none", x.behind(1, 0, 0), NONE);
    }

    private static void blinds() {
        ThreePhases x = Kit.with("account 5 9;account 6 9;order 1 0;order 5 50;order 5 50;order 7 0;");
        Kit.due("BLIND", x.blind(0, 0), 1 + 8);
        Kit.due("PATHS: what comes back is no change", x.blind(0, 1), 0);
        Kit.due("RICHEST: the least of two", x.blind(0, 2), 5);
        x = Kit.with("order 3 5;order 4 5;");
        Kit.due("PATHS", x.blind(0, 1), 7);
        Kit.due("RICHEST", x.blind(0, 2), 3);
        x = Kit.with("");
        Kit.due("no ORDERS: BLIND", x.blind(0, 0), 0);
        Kit.due("no ORDERS: PATHS", x.blind(0, 1), 0);
        Kit.due("no ORDERS: RICHEST", x.blind(0, 2), 0);
        Kit.due("blind 3", x.blind(0, 3), -2);
        Kit.due("blind -1", x.blind(0, -1), -2);
        Kit.due("blind of none", x.blind(1, 0), -2);
    }

    private static String text(List<Integer> accounts) {
        StringBuilder t = new StringBuilder();
        for (int a = 0; a < 8; a++) {
            t.append("account " + a + " " + accounts.get(a) + ";");
        }
        return t.toString();
    }

    private static void bySeed(Random random) {
        List<Integer> mine = new ArrayList<>();
        List<Integer> theirs = new ArrayList<>();
        for (int a = 0; a < 8; a++) {
            mine.add(random.nextInt(100));
            theirs.add(random.nextInt(2) == 0 ? mine.get(a) : random.nextInt(100));
        }
        ThreePhases x = Kit.with(text(mine));
        Kit.tell(x, 0, NONE, text(theirs));
        for (int node = 1; node < 16; node++) {
            Kit.due("SUM " + node + " of " + mine, x.tree(0, node), Model.sum(mine, node));
        }
        List<Integer> then = new ArrayList<>(mine);
        int asked = Model.fetch(mine, then, theirs, 1);
        int taken = 0;
        for (int a = 0; a < 8; a++) {
            taken |= then.get(a).equals(mine.get(a)) ? 0 : 1 << a;
        }
        Kit.due("asked, " + mine + theirs, x.differ(0, 1, 0), asked);
        Kit.due("taken, " + mine + theirs, x.differ(0, 1, 1), taken);
        Kit.due("alike, " + mine + theirs, x.differ(0, 1, 2), then.equals(theirs) ? 1 : 0);
    }
}
