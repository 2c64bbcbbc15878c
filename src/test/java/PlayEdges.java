/** CLASHES, TREE, DIFFER and PLAY of term 3, what term 5 has by PLAY and by ORDERS, promises 12 to 15 and 23 to 25. */
final class PlayEdges {
    private static final int NONE = ThreePhases.NONE;
    private static final int[] FAR_OFF = {-1, 2, 3, Integer.MIN_VALUE, Integer.MAX_VALUE};
    private static final String ONE = "order 0 1;";
    private static final String NINES = "delay 0 1 9;delay 0 2 9;delay 0 3 9;delay 1 2 9;delay 1 3 9;delay 2 3 9;";
    /** 0, 1 and 3 have to wait for each other, and 1 and 3 are far off: LOW comes to 0 long before it comes to them. */
    private static final String APART = "liar 2;window 1;step 1;delay 1 3 9;";
    private static final String ALL_LIARS = "liar 0;liar 1;liar 2;liar 3;";

    private PlayEdges() {
    }

    static void all() {
        Doc.about("Term 3");
        clashes();
        trees();
        plays();
        phases();
        votes();
        minutes();
        Doc.about("Term 5");
        messages();
        done();
        windows();
        orders();
        quorum();
        tree();
        differ();
        play();
        pace();
        behind();
        blind();
    }

    private static int ran(String council, int member, int place) {
        return Kit.with(council).play(0, member, place, false);
    }

    private static int low(String council, int member, int place) {
        return Kit.with(council).play(0, member, place, true);
    }

    private static int pace(String council, int what) {
        return Kit.with(council).pace(0, what);
    }

    private static void clashes() {
        Doc.says("(Of a COUNCIL as told.) CLASHES: couples of unlike sets of as many MEMBERS as a QUORUM "
            + "all of whose common ones are LIARS.");
        String[] councils = {"", "faults 0;", "faults 0;liar 0;", "liar 1;", "liar 0;liar 3;", "liar 0;liar 1;liar 2;", ALL_LIARS,
            "faults 2;liar 0;liar 1;", "faults 2;liar 0;liar 1;liar 2;", "faults 2;liar 6;liar 5;liar 4;liar 3;"};
        // Of 4, quorums leave one out each: a couple leaves out two, and the other two must be LIARS.
        // Of 7, a couple has 3 or 4 in common. 4 LIARS: 4 triples halve the other 4 in 3 ways, one four halves 3 in 3.
        int[] due = {0, 0, 0, 0, 1, 3, 6, 0, 3, 15};
        for (int k = 0; k < councils.length; k++) {
            Kit.due(councils[k], Kit.with(councils[k]).quorum(0, 2), due[k]);
        }
        ThreePhases x = Kit.with("liar 0;liar 3;", "doubt 0;");
        Kit.due("as told, whatever a RUN has", x.quorum(0, 2), 1);
    }

    private static void trees() {
        Doc.says("TREE: SUM of a node of ACCOUNTS.");
        ThreePhases x = Kit.with("account 6 2;account 7 3;order 7 50;");
        Kit.due("the leaf of ACCOUNT 7", x.tree(0, 15), 3);
        Kit.due("the node above it", x.tree(0, 7), 31 * 2 + 17 * 3 + 7);
        Doc.says("DIFFER of two COUNCILS: as in fetch, from the second's ACCOUNTS to the first's: how many SUMS are asked for; "
            + "which ACCOUNTS are taken (bits); whether all are alike then.");
        int[] alike = {1, 0, 1};
        int[] first = {7, 1, 1};
        int[] last = {7, 128, 1};
        int[] ends = {11, 129, 1};
        int[] side = {7, 3, 1};
        int[] every = {15, 255, 1};
        int[] chance = {1, 0, 0};
        int[] partly = {7, 128, 0};
        String base = "account 0 10;account 1 40;";
        differs("alike", base, base, alike);
        differs("the first", base, base + "account 0 11;", first);
        differs("the last", base, base + "account 7 1;", last);
        differs("both ends", base, base + "account 0 99;account 7 99;", ends);
        differs("side by side", base, base + "account 0 11;account 1 41;", side);
        String ones = "account 0 1;account 1 1;account 2 1;account 3 1;account 4 1;account 5 1;account 6 1;account 7 1;";
        differs("every one", base, ones, every);
        differs("a ROOT alike by chance", base, "account 0 27;account 1 9;", chance);
        differs("a node alike by chance", base, "account 0 27;account 1 9;account 7 1;", partly);
    }

    private static void differs(String why, String one, String other, int[] due) {
        ThreePhases x = Kit.with(one);
        Kit.tell(x, 0, NONE, other);
        for (int what = 0; what < 3; what++) {
            Kit.due(why + ", " + what, x.differ(0, 1, what), due[what]);
            Kit.due(why + " the other way, " + what, x.differ(1, 0, what), due[what]);
            Kit.due("of itself, " + what, x.differ(1, 1, what), what == 1 ? 0 : 1);
        }
    }

    private static void plays() {
        Doc.says("PLAY: nobody doubts; LIARS do nothing at all; PRIMARY is 0 (if it is a LIAR: nothing).");
        Kit.due("nothing", ran("liar 0;" + ONE, 1, 1), NONE);
        Kit.due("nothing of one", ran("faults 0;liar 0;" + ONE, 0, 1), NONE);
        Kit.due("a LIAR", ran("liar 3;" + ONE, 3, 1), NONE);
        Kit.due("LOW of a LIAR", low("liar 3;step 1;" + ONE, 3, 1), NONE);
        Kit.due("a QUORUM of others", ran("liar 3;" + ONE, 2, 1), 3);
        Kit.due("no QUORUM of others", ran("liar 3;liar 2;" + ONE, 0, 1), NONE);
        Kit.due("a LIAR's messages do not come", ran("liar 3;delay 0 1 9;" + ONE, 0, 1), 18);
        Kit.due("an HONEST one's do", ran("delay 0 1 9;" + ONE, 0, 1), 3);
        Doc.says("ORDER k is for PLACE k and 1, and comes to 0 in minute k.");
        for (int orders = 1; orders <= 10; orders++) {
            String council = "faults 0;window 9;step 1;" + ONE.repeat(orders);
            Kit.due("the last of " + orders, ran(council, 0, orders), orders - 1);
            Kit.due("none behind " + orders, ran(council, 0, orders + 1), NONE);
        }
        Kit.due("of four, at 4", ran(ONE.repeat(4), 2, 4), 6);
        Doc.says("What is sent in a minute to another MEMBER comes there DELAY later; what one does takes no time.");
        Kit.due("three ways of 1", ran(ONE, 3, 1), 3);
        Kit.due("three ways of 9", ran(NINES + ONE, 3, 1), 27);
        Kit.due("no way", ran("faults 0;" + ONE, 0, 1), 0);
        Kit.due("the way from 0 to 1 is long", ran("delay 0 1 5;" + ONE, 1, 1), 5);
        Kit.due("others do not wait for it", ran("delay 0 1 5;" + ONE, 0, 1), 3);
    }

    private static void phases() {
        Doc.says("0 ACCEPTS a PLACE as soon as its ORDER has come, all ahead are ACCEPTED, and it is within its WINDOW, "
            + "and proposes it to all;");
        String two = ONE.repeat(2);
        Kit.due("as its ORDER comes", ran("window 2;step 1;" + two, 0, 2), 4);
        Kit.due("as its WINDOW goes on: LOW 1 in minute 4", ran("window 1;step 1;" + two, 0, 2), 7);
        Kit.due("its WINDOW never goes on", ran("window 1;step 2;" + two, 0, 2), NONE);
        Kit.due("PLACE 3 by WINDOW 2", ran("window 2;step 1;" + ONE.repeat(3), 0, 3), 7);
        Kit.due("PLACE 3 by WINDOW 3", ran("window 3;step 1;" + ONE.repeat(3), 0, 3), 5);
        Kit.due("PLACE 4 by WINDOW 4 at first", ran(ONE.repeat(5), 0, 4), 6);
        Kit.due("PLACE 5 by WINDOW 4 and LOW 2 in minute 5", ran(ONE.repeat(5), 0, 5), 8);
        Doc.says("others ACCEPT it (PREPARES being 0 and themselves) as soon as that has come, and it is within their WINDOW, "
            + "and send PREPARE to all;");
        // In APART 1 and 3 are PREPARED in minute 10 and RAN in 19; LOW comes to 0 in 20, to 1 and 3 in 28.
        Kit.due("RAN 1 of 0", ran(APART + two, 0, 1), 11);
        Kit.due("RAN 1 of 1", ran(APART + two, 1, 1), 19);
        Kit.due("LOW 1 of 0", low(APART + two, 0, 1), 20);
        Kit.due("LOW 1 of 1", low(APART + two, 1, 1), 28);
        Kit.due("it waits for their WINDOW", ran(APART + two, 0, 2), 38);
        Kit.due("it does not by a WINDOW of 2", ran(APART + "window 2;" + two, 0, 2), 12);
        Kit.due("two are enough of four with 0", ran("delay 1 2 9;delay 1 3 9;" + ONE, 2, 1), 3);
        Doc.says("all send COMMIT as soon as they are PREPARED, RUN, as soon as they can, "
            + "and send their MARK at each CHECKPOINT;");
        Kit.due("messages of one PLACE", pace(ONE, 0), 3 + 9 + 12);
        Kit.due("with a MARK of each", pace("step 1;" + ONE, 0), 3 + 9 + 12 + 12);
        Kit.due("PLACES that are not divided by STEP", pace("step 4;" + ONE.repeat(3), 0), 3 * 24);
        Kit.due("one that is", pace("step 4;" + ONE.repeat(4), 0), 4 * 24 + 12);
        Kit.due("a COMMIT by too few PREPARES", pace("liar 2;liar 3;" + ONE, 0), 2);
        Kit.due("RUN behind the one ahead", ran("window 9;" + ONE.repeat(10), 1, 10), 12);
    }

    private static void votes() {
        Doc.says("VOTES count as soon as they have come and one has a CHECKPOINT of that PLACE or a later one "
            + "(each VOTE, also an older one): then LOW is it.");
        Kit.due("as they come", low("step 1;" + ONE, 0, 1), 4);
        Kit.due("by the nines", low("step 1;" + NINES + ONE, 0, 1), 36);
        // Five others tell 6 in minute 4 that they RAN; the proposal comes to it in minute 9.
        String late = "faults 2;step 1;delay 0 6 9;" + ONE;
        Kit.due("RAN of the late one", ran(late, 6, 1), 9);
        Kit.due("LOW of the late one", low(late, 6, 1), 9);
        String slow = "step 1;window 9;" + NINES + ONE.repeat(3);
        for (int s = 1; s <= 3; s++) {
            Kit.due("an older VOTE, by a later CHECKPOINT, " + s, low(slow, 1, s), 35 + s);
        }
        Kit.due("too few VOTES", low("step 1;liar 3;liar 2;" + ONE, 0, 1), NONE);
        Kit.due("no CHECKPOINT", low("step 2;" + ONE, 0, 1), NONE);
    }

    private static void minutes() {
        Doc.says("In which minute a MEMBER RAN a PLACE, in which its LOW came to a PLACE or above, up to minute 400.");
        String two = ONE.repeat(2);
        Kit.due("RAN 1", ran(two, 0, 1), 3);
        Kit.due("RAN 2", ran(two, 0, 2), 4);
        Kit.due("LOW 2", low(two, 0, 2), 5);
        Kit.due("LOW 1 or above", low(two, 0, 1), 5);
        Kit.due("LOW 3, never", low(two, 0, 3), NONE);
        // Nothing takes longer than this.
        String longest = "window 1;step 1;" + NINES + ONE.repeat(10);
        Kit.due("the last of all", ran(longest, 3, 10), 9 * 36 + 27);
        Kit.due("LOW of all", low(longest, 3, 10), 360);
    }

    private static void messages() {
        Doc.says("(Of a COUNCIL as told.) By PLAY: SENT: how many messages are sent to another HONEST MEMBER, up to minute 400 "
            + "(an ORDER that comes to 0 is none);");
        Kit.due("of four", pace(ONE, 0), 24);
        Kit.due("of seven", pace("faults 2;" + ONE, 0), 6 + 36 + 42);
        Kit.due("to a LIAR there is none", pace("liar 3;" + ONE, 0), 2 + 4 + 6);
        Kit.due("of one alone", pace("faults 0;step 1;" + ONE.repeat(10), 0), 0);
        ThreePhases x = Kit.with(ONE);
        Kit.due("asked for once", x.pace(0, 0), 24);
        Kit.due("asked for twice", x.pace(0, 0), 24);
        Kit.due("to LIARS alone", pace("liar 1;liar 2;liar 3;" + ONE, 0), 0);
        Kit.due("without ORDERS", pace("", 0), 0);
        Kit.due("by a lying PRIMARY", pace("liar 0;" + ONE, 0), 0);
        Doc.says("QUIET: the minute, up to 400, in which the last one comes (none: none);");
        Kit.due("a COMMIT", pace(ONE, 1), 3);
        Kit.due("a MARK", pace("step 1;" + ONE, 1), 4);
        Kit.due("a way that is longer than all others", pace("delay 0 3 9;step 1;" + ONE, 1), 18);
        Kit.due("the way to a LIAR does not count", pace("liar 3;delay 0 3 9;" + ONE, 1), 3);
        Kit.due("two LIARS: the one PREPARE", pace("liar 3;liar 2;" + ONE, 1), 2);
        Kit.due("the last of the longest", pace("window 1;step 1;" + NINES + ONE.repeat(10), 1), 360);
        Kit.due("none of one alone", pace("faults 0;" + ONE, 1), NONE);
        Kit.due("none to LIARS", pace("liar 1;liar 2;liar 3;" + ONE, 1), NONE);
        Kit.due("none without ORDERS", pace("", 1), NONE);
        Kit.due("none by a lying PRIMARY", pace("liar 0;" + ONE, 1), NONE);
    }

    private static void done() {
        Doc.says("DONE of a PLACE: the first minute in which more than FAULTS RAN it (none);");
        Kit.due("by the second of three", pace(APART + ONE, 11), 19);
        Kit.due("not by the first", ran(APART + ONE, 0, 1), 11);
        Kit.due("FAULTS 0: by the first", pace("faults 0;" + ONE, 11), 0);
        Kit.due("two LIARS: none", pace("liar 2;liar 3;" + ONE, 11), NONE);
        Kit.due("no such ORDER: none", pace(ONE, 12), NONE);
        Doc.says("SLOWEST: the PLACE, of those whose ORDER there is, from whose ORDER's coming to DONE it takes longest, "
            + "of several the least (one is never DONE, or there are no ORDERS: none);");
        Kit.due("of several the least", pace(ONE.repeat(4), 2), 1);
        Kit.due("the one that waits longest", pace("window 2;step 2;" + ONE.repeat(4), 2), 3);
        Kit.due("one minute longer than all ahead", pace("window 3;step 1;" + ONE.repeat(4), 2), 4);
        Kit.due("the last", pace("window 1;step 1;" + ONE.repeat(10), 2), 10);
        Kit.due("one is never DONE", pace("window 2;step 3;" + ONE.repeat(3), 2), NONE);
        Kit.due("none is ever DONE", pace("liar 0;" + ONE, 2), NONE);
        Kit.due("no ORDERS", pace("", 2), NONE);
        Kit.due("of one alone, in no time", pace("faults 0;" + ONE.repeat(2), 2), 1);
    }

    private static void windows() {
        Doc.says("TIGHT: the least WINDOW, 1 .. 9, all else as told, by which the last ORDER's PLACE is DONE as early as by 9 "
            + "(by 9 it never is, or there are no ORDERS: none);");
        Kit.due("the least", pace(ONE, 3), 1);
        Kit.due("whatever WINDOW is told", pace("window 9;" + ONE, 3), 1);
        Kit.due("two ORDERS", pace("step 1;window 1;" + ONE.repeat(2), 3), 2);
        Kit.due("by LOW that follows", pace("step 1;" + ONE.repeat(10), 3), 4);
        Kit.due("all else as told: STEP 4", pace("step 4;" + ONE.repeat(5), 3), 5);
        Kit.due("the greatest", pace("step 1;" + NINES + ONE.repeat(10), 3), 9);
        Kit.due("by WINDOW 1 never, by 3", pace("window 1;step 3;" + ONE.repeat(3), 3), 3);
        Kit.due("by 9 it never is", pace("liar 1;liar 2;" + ONE, 3), NONE);
        Kit.due("no ORDERS", pace("", 3), NONE);
        Doc.says("SPARE: MEMBERS (bits) each of which, being a LIAR, too, leaves the last ORDER's PLACE DONE (0, as above).");
        Kit.due("all but the PRIMARY", pace(ONE, 4), 14);
        Kit.due("of seven", pace("faults 2;" + ONE, 4), 126);
        Kit.due("of seven, with one LIAR", pace("faults 2;liar 4;" + ONE, 4), 126);
        Kit.due("of seven, with two LIARS: these alone", pace("faults 2;liar 4;liar 6;" + ONE, 4), 80);
        Kit.due("with one LIAR: it alone", pace("liar 3;" + ONE, 4), 8);
        Kit.due("one alone", pace("faults 0;" + ONE, 4), 0);
        Kit.due("never DONE", pace("window 1;step 2;" + ONE.repeat(2), 4), 0);
        Kit.due("a lying PRIMARY", pace("liar 0;" + ONE, 4), 0);
        Kit.due("no ORDERS", pace("", 4), 0);
    }

    private static void orders() {
        Doc.says("BEHIND k ORDERS, run in their order, one behind the other: an ACCOUNT; ROOT.");
        ThreePhases x = Kit.with("account 3 60;order 3 30;order 3 30;order 4 9;");
        int[] three = {60, 90, 20, 20};
        int[] four = {0, 0, 0, 9};
        for (int k = 0; k <= 3; k++) {
            ThreePhases y = Kit.with("account 3 " + three[k] + ";account 4 " + four[k] + ";");
            Kit.due("ACCOUNT 3 behind " + k, x.behind(0, k, 13), three[k]);
            Kit.due("ACCOUNT 4 behind " + k, x.behind(0, k, 14), four[k]);
            Kit.due("ROOT behind " + k, x.behind(0, k, 0), y.tree(0, 1));
        }
        Kit.due("ACCOUNTS as told stay", x.council(0, 13), 60);
        Doc.says("BLIND: ORDERS (bits) each of which, run alone, does not change the ROOT.");
        Kit.due("PLUS 0", Kit.with("order 0 0;order 1 1;order 7 0;").blind(0, 0), 5);
        Kit.due("alone, not together", Kit.with("order 0 50;order 0 50;").blind(0, 0), 0);
        Kit.due("the tenth", Kit.with(ONE.repeat(9) + "order 0 0;").blind(0, 0), 512);
        Kit.due("no ORDERS", Kit.with("").blind(0, 0), 0);
        Doc.says("PATHS: how many nodes of the TREE (leaves, too) another SUM has behind all ORDERS.");
        Kit.due("one leaf", Kit.with("order 5 1;").blind(0, 1), 4);
        Kit.due("two leaves side by side", Kit.with("order 4 1;order 5 1;").blind(0, 1), 5);
        Kit.due("two leaves far off", Kit.with("order 0 1;order 7 1;").blind(0, 1), 7);
        Kit.due("one and back", Kit.with("order 5 99;order 5 1;").blind(0, 1), 0);
        Kit.due("nodes alike by chance", Kit.with("account 0 10;account 1 40;order 0 17;order 1 69;").blind(0, 1), 2);
        Kit.due("no ORDERS", Kit.with("").blind(0, 1), 0);
        Doc.says("RICHEST: the ACCOUNT that has most behind all ORDERS, of several the least.");
        Kit.due("of all alike", Kit.with("").blind(0, 2), 0);
        for (int a = 0; a < 8; a++) {
            Kit.due("as told, " + a, Kit.with("account " + a + " 1;").blind(0, 2), a);
        }
        Kit.due("behind all ORDERS", Kit.with("account 7 1;order 6 2;").blind(0, 2), 6);
        Kit.due("behind a wrap", Kit.with("account 7 99;account 2 1;order 7 1;").blind(0, 2), 2);
        Kit.due("of several the least", Kit.with("account 6 5;order 4 5;order 5 4;").blind(0, 2), 4);
    }

    private static void quorum() {
        Doc.about("Promise 12");
        Doc.says("What 0: QUORUM, 1: how many sets of MEMBERS there are of so many, 2: CLASHES, 3: how many HONEST ones.");
        int[][] due = {{1, 1, 0, 1}, {3, 4, 0, 4}, {5, 21, 0, 7}};
        for (int faults = 0; faults < 3; faults++) {
            for (int what = 0; what < 4; what++) {
                Kit.due("FAULTS " + faults + ", " + what, Kit.with("faults " + faults + ";").quorum(0, what), due[faults][what]);
            }
        }
        int[] liars = {3, 4, 6, 0};
        for (int what = 0; what < 4; what++) {
            Kit.due("all LIARS, " + what, Kit.with(ALL_LIARS).quorum(0, what), liars[what]);
        }
        Doc.says("-2: there is none such, or for another what.");
        ThreePhases x = Kit.with("");
        Kit.due("COUNCIL 1", x.quorum(1, 0), -2);
        for (int k : FAR_OFF) {
            Kit.due("COUNCIL " + k, x.quorum(k, 0), -2);
        }
        for (int what : new int[] {-1, 4, 5, Integer.MIN_VALUE, Integer.MAX_VALUE}) {
            Kit.due("what " + what, x.quorum(0, what), -2);
        }
    }

    private static void tree() {
        Doc.about("Promise 13");
        Doc.says("TREE of a node, 1 .. 15.");
        ThreePhases x = Kit.with("account 0 1;account 7 9;");
        Kit.due("node 15", x.tree(0, 15), 9);
        Kit.due("node 8", x.tree(0, 8), 1);
        Kit.due("node 4", x.tree(0, 4), 38);
        // 4: 38, 5 and 6: 7, 7: 160; 2: 38 * 31 + 7 * 17 + 7 = 1304; 3: 7 * 31 + 160 * 17 + 7 = 2944.
        Kit.due("node 2", x.tree(0, 2), 1304);
        Kit.due("node 3", x.tree(0, 3), 2944);
        Kit.due("node 1", x.tree(0, 1), (1304 * 31 + 2944 * 17 + 7) % 9973);
        Doc.says("NONE: another one, or there is none such.");
        for (int node : new int[] {-1, 0, 16, 17, Integer.MIN_VALUE, Integer.MAX_VALUE}) {
            Kit.due("node " + node, x.tree(0, node), NONE);
        }
        Kit.due("COUNCIL 1", x.tree(1, 1), NONE);
        for (int k : FAR_OFF) {
            Kit.due("COUNCIL " + k, x.tree(k, 1), NONE);
        }
    }

    private static void differ() {
        Doc.about("Promise 14");
        Doc.says("DIFFER, what 0: how many, 1: which (bits), 2: 1 if alike then, else 0.");
        ThreePhases x = Kit.with("account 2 5;");
        Kit.tell(x, 0, NONE, "account 2 5;account 3 1;account 5 1;");
        int[] due = {11, 8 + 32, 1};
        for (int what = 0; what < 3; what++) {
            Kit.due("what " + what, x.differ(0, 1, what), due[what]);
        }
        Kit.due("ACCOUNTS as told stay", x.council(0, 13), 0);
        Doc.says("NONE: there is none such (of either), or for another what.");
        for (int k : FAR_OFF) {
            Kit.due("COUNCIL " + k, x.differ(k, 0, 0), NONE);
            Kit.due("other " + k, x.differ(0, k, 0), NONE);
        }
        for (int what : new int[] {-1, 3, 4, Integer.MIN_VALUE, Integer.MAX_VALUE}) {
            Kit.due("what " + what, x.differ(0, 1, what), NONE);
        }
        Kit.due("one COUNCIL alone", Kit.with("").differ(0, 1, 0), NONE);
    }

    private static void play() {
        Doc.about("Promise 15");
        Doc.says("PLAY: in which minute a MEMBER RAN a PLACE, or (low) LOW came there.");
        ThreePhases x = Kit.with(ONE.repeat(10));
        for (int m = 0; m < 4; m++) {
            Kit.due("RAN of " + m, x.play(0, m, 2, false), 4);
            Kit.due("LOW of " + m, x.play(0, m, 2, true), 5);
        }
        Doc.says("NONE: never, or there is none such (of any; PLACES 1 .. 10).");
        Kit.due("RAN 10", x.play(0, 0, 10, false) >= 12, true);
        Kit.due("LOW 10", x.play(0, 0, 10, true) > x.play(0, 0, 10, false), true);
        Kit.due("never", ran("liar 0;" + ONE, 1, 1), NONE);
        Kit.due("never LOW", low("step 4;" + ONE, 1, 1), NONE);
        Kit.due("COUNCIL 1", x.play(1, 0, 1, false), NONE);
        for (int k : FAR_OFF) {
            Kit.due("COUNCIL " + k, x.play(k, 0, 1, false), NONE);
        }
        for (int m : new int[] {-1, 4, 6, 7, Integer.MIN_VALUE, Integer.MAX_VALUE}) {
            Kit.due("RAN of MEMBER " + m, x.play(0, m, 1, false), NONE);
            Kit.due("LOW of MEMBER " + m, x.play(0, m, 1, true), NONE);
        }
        for (int place : new int[] {-1, 0, 11, 12, 13, Integer.MIN_VALUE, Integer.MAX_VALUE}) {
            Kit.due("RAN " + place, x.play(0, 0, place, false), NONE);
            Kit.due("LOW " + place, x.play(0, 0, place, true), NONE);
        }
    }

    private static void pace() {
        Doc.about("Promise 23");
        Doc.says("What 0: SENT, 1: QUIET, 2: SLOWEST, 3: TIGHT (NONE of these), 4: SPARE (bits), "
            + "10 + s: DONE of a PLACE, 1 .. 10 (NONE).");
        ThreePhases x = Kit.with("step 1;window 1;" + ONE.repeat(2));
        int[][] due = {{0, 72}, {1, 8}, {2, 2}, {3, 2}, {4, 14}, {11, 3}, {12, 7}, {13, NONE}, {20, NONE}};
        for (int[] pair : due) {
            Kit.due("what " + pair[0], x.pace(0, pair[0]), pair[1]);
        }
        Kit.due("DONE of PLACE 10", pace("faults 0;step 1;" + ONE.repeat(10), 20), 9);
        int[] none = {0, NONE, NONE, NONE, 0};
        for (int what = 0; what < 5; what++) {
            Kit.due("no ORDERS, " + what, pace("", what), none[what]);
        }
        Doc.says("-2: there is none such, or for another what.");
        Kit.due("COUNCIL 1", x.pace(1, 0), -2);
        for (int k : FAR_OFF) {
            Kit.due("COUNCIL " + k, x.pace(k, 0), -2);
            Kit.due("COUNCIL " + k + ", TIGHT", x.pace(k, 3), -2);
            Kit.due("COUNCIL " + k + ", SPARE", x.pace(k, 4), -2);
        }
        for (int what : new int[] {-1, 5, 9, 10, 21, 22, 100, Integer.MIN_VALUE, Integer.MAX_VALUE}) {
            Kit.due("what " + what, x.pace(0, what), -2);
        }
    }

    private static void behind() {
        Doc.about("Promise 24");
        Doc.says("BEHIND k ORDERS, what 0: ROOT, 10 + a: an ACCOUNT.");
        ThreePhases x = Kit.with("account 0 2;order 7 3;order 0 99;");
        Kit.due("ROOT behind 0", x.behind(0, 0, 0), x.tree(0, 1));
        int[][] due = {{2, 0}, {2, 3}, {1, 3}};
        for (int k = 0; k <= 2; k++) {
            Kit.due("ACCOUNT 0 behind " + k, x.behind(0, k, 10), due[k][0]);
            Kit.due("ACCOUNT 7 behind " + k, x.behind(0, k, 17), due[k][1]);
        }
        Doc.says("NONE: not so many, there is none such (of any), or for another what.");
        for (int k : new int[] {-1, 3, 10, Integer.MIN_VALUE, Integer.MAX_VALUE}) {
            Kit.due("k " + k, x.behind(0, k, 0), NONE);
        }
        Kit.due("all of ten", Kit.with(ONE.repeat(10)).behind(0, 10, 10), 10);
        Kit.due("eleven of ten", Kit.with(ONE.repeat(10)).behind(0, 11, 10), NONE);
        Kit.due("one of none", Kit.with("").behind(0, 1, 10), NONE);
        Kit.due("COUNCIL 1", x.behind(1, 0, 0), NONE);
        for (int k : FAR_OFF) {
            Kit.due("COUNCIL " + k, x.behind(k, 0, 0), NONE);
        }
        for (int what : new int[] {-1, 1, 9, 18, 20, Integer.MIN_VALUE, Integer.MAX_VALUE}) {
            Kit.due("what " + what, x.behind(0, 0, what), NONE);
        }
    }

    private static void blind() {
        Doc.about("Promise 25");
        Doc.says("What 0: BLIND (bits), 1: PATHS, 2: RICHEST.");
        ThreePhases x = Kit.with("order 3 5;order 2 0;");
        int[] due = {2, 4, 3};
        for (int what = 0; what < 3; what++) {
            Kit.due("what " + what, x.blind(0, what), due[what]);
        }
        Doc.says("-2: there is none such, or for another what.");
        Kit.due("COUNCIL 1", x.blind(1, 0), -2);
        for (int k : FAR_OFF) {
            Kit.due("COUNCIL " + k, x.blind(k, 0), -2);
        }
        for (int what : new int[] {-1, 3, 4, Integer.MIN_VALUE, Integer.MAX_VALUE}) {
            Kit.due("what " + what, x.blind(0, what), -2);
        }
    }
}
