import java.util.ArrayList;
import java.util.LinkedHashMap;
import java.util.List;
import java.util.Map;

/**
 * Term 4 and promise 19: what a SEED draws. Each draw is written out as a DEED's text; what is DRAWN is then what a
 * RUN of those DEEDS has that may be.
 */
final class DrawnEdges {
    private static final int NONE = ThreePhases.NONE;
    private static final String ORDERS = "order 0 1;order 1 8;order 2 15;order 3 22;order 4 29;order 5 36;order 6 43;"
        + "order 7 50;order 0 57;order 1 64;";
    private static final String LIARS = "liar 0;liar 3;step 1;" + ORDERS;
    private static final String ALONE = "faults 0;step 1;window 9;" + ORDERS;
    /** A SEED by which a DEED of fetch may be, one of many millions. */
    private static final String FETCHING = "liar 0;liar 1;step 1;window 9;" + ORDERS;
    private static final int FETCHING_SEED = -2133949030;
    /** SEEDS by which LIARS see all other sorts of DEEDS; each RUN stays within 40 DEEDS. */
    private static final int[] SEEDS = {1, 14, 16, 46, 177, 1172, 1304, 2344, 2397};
    private static final int[] SEEDS_ALONE = {0, 13, 23, 106, -8, -18, Integer.MIN_VALUE, Integer.MAX_VALUE};

    /** Behind the n-th draw of a SEED: the DEED it drew, whether it may be, the RUN of all that may be up to it. */
    private record Case(String council, int seed, int n, String deed, boolean may, String run) {
    }

    private DrawnEdges() {
    }

    static void all() {
        Map<String, List<Case>> cases = new LinkedHashMap<>();
        for (int seed : SEEDS) {
            collect(cases, LIARS, seed, 4);
        }
        for (int seed : SEEDS_ALONE) {
            collect(cases, ALONE, seed, 1);
        }
        collect(cases, FETCHING, FETCHING_SEED, 4);
        Doc.about("Term 4");
        numbers();
        times();
        members();
        kinds(cases);
        drawn();
    }

    private static int below(int[] x, int n) {
        x[0] = (int) (x[0] * 1103515245L + 12345L);
        return (int) ((x[0] & 0xffffffffL) / 65536 % n);
    }

    private static String draw(int[] x, int members) {
        int sort = below(x, 10);
        int a = below(x, members);
        int b = members == 1 ? 0 : (a + 1 + below(x, members - 1)) % members;
        int place = 1 + below(x, 12);
        switch (sort) {
            case 0: case 1: return "propose " + a + " " + place + " " + below(x, 10) + ";";
            case 2: case 3: return "prepare " + a + " " + b + " " + place + ";";
            case 4: case 5: return "commit " + a + " " + b + " " + place + ";";
            case 6: return "run " + a + ";";
            case 7: return "mark " + a + " " + b + ";";
            case 9: return "enter " + a + ";";
            default: break;
        }
        int more = below(x, 4);
        return more == 0 ? "fetch " + a + " " + b + ";" : (more == 1 ? "doubt " : "view ") + a + ";";
    }

    private static void collect(Map<String, List<Case>> cases, String council, int seed, int members) {
        int[] x = {seed};
        String run = "";
        for (int n = 1; n <= 200; n++) {
            String deed = draw(x, members);
            String more = run + deed;
            if (Deeds.count(more) > 40 || more.length() > 600) {
                return;
            }
            boolean may = Kit.faultOf(1, more) == 0 && Deeds.stopOf(council, more) == Deeds.count(more);
            run = may ? more : run;
            String word = may ? deed.substring(0, deed.indexOf(' ')) : "none";
            cases.computeIfAbsent(word, w -> new ArrayList<>()).add(new Case(council, seed, n, deed, may, run));
        }
    }

    /** What is DRAWN is what the RUN has, of all MEMBERS. */
    private static void same(Case one) {
        String name = "seed " + one.seed + ", n " + one.n + " (" + one.deed + ") of " + one.council + " ";
        int deeds = Deeds.count(one.run);
        for (int m = 0; m < (one.council.startsWith("faults 0") ? 1 : 4); m++) {
            ThreePhases x = Kit.with(one.council, one.run);
            for (int what = 0; what < 18; what++) {
                Kit.due(name + m + " " + what, x.drawn(0, one.seed, one.n, m, what), x.state(0, 0, deeds, m, what));
            }
            for (int s = 1; s <= 12; s++) {
                for (int k = 0; k < 8; k++) {
                    int what = 100 * s + k;
                    Kit.due(name + m + " " + what, x.drawn(0, one.seed, one.n, m, what), x.state(0, 0, deeds, m, what));
                }
            }
        }
    }

    /** The one DEED that a SEED draws first, found by another program, and what tells that it was done. */
    private static void first(String council, int seed, int member, int what, int due) {
        ThreePhases x = Kit.with(council + ORDERS);
        Kit.due("seed " + seed + " of " + council, x.drawn(0, seed, 1, member, what), due);
    }

    private static void numbers() {
        Doc.says("DRAWN by a SEED, x; a number below n is drawn: x becomes x * 1103515245 + 12345 (of 32 bits), "
            + "it is x shifted right by 16 without sign, remainder by n:");
        first("", 27, 2, 0, 1);
        first("", 152, 3, 0, 1);
        first("", 183, 0, 0, 1);
        first("", -4, 1, 0, 1);
        first("", -32, 0, 0, 1);
        first("window 9;", 28, 0, 800, 4);
        first("", 43, 0, 100, 9);
        first("window 9;", -20, 0, 400, 6);
        first("window 9;", -46, 0, 700, 7);
        first("faults 0;", 106, 0, 0, 1);
        first("faults 0;", Integer.MIN_VALUE, 0, 0, 1);
        first("faults 2;", 152, 6, 0, 1);
        first("faults 2;", -4, 3, 0, 1);
        first("faults 2;", -8, 0, 200, 6);
    }

    private static void times() {
        Doc.says("n times, 0 to 200:");
        ThreePhases x = Kit.with(ALONE);
        Kit.due("0: as at first", x.drawn(0, 106, 0, 0, 0), 0);
        Kit.due("1: doubt 0", x.drawn(0, 106, 1, 0, 0), 1);
        Kit.due("-1", x.drawn(0, 106, -1, 0, 0), -2);
        Kit.due("201", x.drawn(0, 106, 201, 0, 0), -2);
        // By SEED 23 there are seven doubts, and the 200th draw is the last of them, by another program.
        Kit.due("199", x.drawn(0, 23, 199, 0, 0), 6);
        Kit.due("200", x.drawn(0, 23, 200, 0, 0), 7);
    }

    private static void members() {
        Doc.says("a number below 10, A below MEMBERS, B: A and 1 and a number below all but one "
            + "(with one MEMBER 0, nothing drawn for it), remainder by MEMBERS, a PLACE, 1 more than a number below 12:");
        // One MEMBER, SEED 0: propose 0 1 5, doubt 0, propose 0 6 2 (it is not ACTIVE then), by another program.
        ThreePhases x = Kit.with(ALONE);
        Kit.due("ORDER at 1", x.drawn(0, 0, 1, 0, 100), 5);
        Kit.due("VIEW", x.drawn(0, 0, 2, 0, 0), 1);
        Kit.due("not ACCEPTED", x.drawn(0, 0, 3, 0, 600), NONE);
        // Four MEMBERS, SEED 0: propose 0 10 8; seven MEMBERS, SEED 27: doubt 2, SEED 152: doubt 6.
        Kit.due("A is the last of seven", Kit.with("faults 2;").drawn(0, 152, 1, 6, 0), 1);
        Kit.due("A is the last of four", Kit.with("").drawn(0, 152, 1, 3, 0), 1);
        lastPlace();
    }

    /** All PLACES up to 12 are drawn; one MEMBER that has LOW 0 takes those within its WINDOW. */
    private static void lastPlace() {
        int[] seen = new int[14];
        for (int seed = 0; seed < 3000; seed++) {
            int[] x = {seed};
            String deed = draw(x, 1);
            if (deed.startsWith("propose")) {
                int place = Integer.parseInt(deed.split(" ")[2]);
                int order = Integer.parseInt(deed.split(" |;")[3]);
                seen[place]++;
                Kit.due("seed " + seed + ": " + deed, Kit.with(ALONE).drawn(0, seed, 1, 0, 100 * place),
                    place <= 9 ? order : NONE);
            }
        }
        for (int place = 0; place < 14; place++) {
            Kit.due("PLACE " + place + " is drawn", seen[place] > 0, place >= 1 && place <= 12);
        }
    }

    private static void kinds(Map<String, List<Case>> cases) {
        Doc.says("0, 1: propose A there, with a number below 10 more as ORDER;");
        all(cases, "propose", 40);
        Doc.says("2, 3: prepare A B;");
        all(cases, "prepare", 8);
        Doc.says("4, 5: commit A B;");
        all(cases, "commit", 8);
        Doc.says("6: run A;");
        all(cases, "run", 8);
        Doc.says("7: mark A B;");
        all(cases, "mark", 4);
        Doc.says("8: fetch A B, if its number below 4 more is 0, else doubt A, if that is 1, else view A;");
        all(cases, "fetch", 1);
        all(cases, "doubt", 20);
        all(cases, "view", 4);
        Doc.says("9: enter A;");
        all(cases, "enter", 2);
        Doc.says("each, if it may (with B as A only what takes one).");
        int coupled = 0;
        for (Case one : cases.get("none")) {
            boolean couple = one.deed.matches("(prepare|commit|mark|fetch) 0 0.*");
            coupled += couple ? 1 : 0;
            if (couple && coupled < 100 || one.n % 20 == 0) {
                same(one);
            }
        }
        Kit.due("DEEDS with B as A", coupled >= 100, true);
    }

    private static void all(Map<String, List<Case>> cases, String word, int least) {
        List<Case> list = cases.getOrDefault(word, List.of());
        Kit.due("DEEDS of " + word + " that may be, " + list.size(), list.size() >= least, true);
        for (Case one : list) {
            same(one);
        }
    }

    private static void drawn() {
        Doc.about("Promise 19");
        Doc.says("DRAWN, n times, what as state().");
        ThreePhases x = Kit.with(ALONE);
        Kit.due("VIEW", x.drawn(0, 106, 1, 0, 0), 1);
        Kit.due("ACTIVE", x.drawn(0, 106, 1, 0, 1), 0);
        Kit.due("no CHECKPOINT", x.drawn(0, 106, 1, 0, 6), NONE);
        Kit.due("the ORDER it ACCEPTED", x.drawn(0, 0, 1, 0, 100), 5);
        Kit.due("ORDER of its PROOF", x.drawn(0, 0, 1, 0, 106), 5);
        Kit.due("it keeps no trace", x.drawn(0, 106, 0, 0, 0), 0);
        Doc.says("-2: there is none such, another n, or for another what.");
        for (int k : new int[] {-1, 1, 2, Integer.MIN_VALUE, Integer.MAX_VALUE}) {
            Kit.due("COUNCIL " + k, x.drawn(k, 1, 1, 0, 0), -2);
            Kit.due("MEMBER " + k, x.drawn(0, 1, 1, k, 0), -2);
        }
        for (int n : new int[] {-1, 201, Integer.MIN_VALUE, Integer.MAX_VALUE}) {
            Kit.due("n " + n, x.drawn(0, 1, n, 0, 0), -2);
        }
        int[] others = {-1, 7, 8, 9, 18, 99, 108, 199, 1208, 1300, 1307, Integer.MIN_VALUE, Integer.MAX_VALUE};
        for (int what : others) {
            Kit.due("what " + what, x.drawn(0, 1, 200, 0, what), -2);
        }
    }
}
