/** Texts of RUNS that many tests share, and what is behind them. */
final class Deeds {
    static final String TWO = "order 0 5;order 1 7;";
    /** 0 and 1 are HONEST; with the LIARS 2 and 3 each of them has a QUORUM. */
    static final String PAIR = TWO + "liar 2;liar 3;";
    /** 0 and 3 are HONEST; the LIARS 1 and 2 are PRIMARY of VIEWS 1 and 2. */
    static final String FALSE_HEADS = TWO + "liar 1;liar 2;";
    /** 1 and 2 are HONEST, and the PRIMARY of VIEW 0 lies. */
    static final String FALSE_FIRST = TWO + "liar 0;liar 3;";
    static final String ALONE = TWO + "faults 0;";

    /** By FALSE_HEADS 3 has a PROOF of ORDER 0 at PLACE 1 in VIEW 0, and 0 one of ORDER 1 in VIEW 1. */
    static final String TURNED = "propose 0 1 0;propose 3 1 0;prepare 1 3 1;" + doubts(0, 1, 2)
        + "view 1;propose 0 1 1;prepare 2 0 1;";

    private Deeds() {
    }

    static int count(String run) {
        return run.length() - run.replace(";", "").length();
    }

    static int stopOf(String council, String run) {
        return Kit.with(council, run).stop(0, 0);
    }

    static void may(String why, String council, String run) {
        Kit.due(why + " may be: " + run + " by " + council, stopOf(council, run), count(run));
    }

    /** All DEEDS but the last may be. */
    static void cannot(String why, String council, String run) {
        Kit.due(why + " can't be: " + run + " by " + council, stopOf(council, run), count(run) - 1);
    }

    /** What a MEMBER has behind all of a RUN; -2 if not all of it may be. */
    static int has(String council, String run, int member, int what) {
        return Kit.with(council, run).state(0, 0, count(run), member, what);
    }

    static int made(String council, String run, int view, int what) {
        return Kit.with(council, run).made(0, 0, count(run), view, what);
    }

    /** A MEMBER has a PLACE PREPARED with the help of two LIARS: 3 DEEDS. */
    static String prepared(int member, int place, int order, int one, int other) {
        String there = " " + member + " " + place;
        return "propose" + there + " " + order + ";prepare " + one + there + ";prepare " + other + there + ";";
    }

    /** A MEMBER has a PLACE COMMITTED with the help of two LIARS: 5 DEEDS. */
    static String agreed(int member, int place, int order, int one, int other) {
        String there = " " + member + " " + place;
        return prepared(member, place, order, one, other) + "commit " + one + there + ";commit " + other + there + ";";
    }

    /** PLACES 1 to n at MEMBER 0, with the LIARS 2 and 3; all are RUN, and LOW follows. */
    static String far(int n) {
        StringBuilder text = new StringBuilder();
        for (int s = 1; s <= n; s++) {
            text.append(agreed(0, s, s % 2, 2, 3));
        }
        return text + "run 0;mark 2 0;mark 3 0;";
    }

    static String doubts(int... members) {
        StringBuilder text = new StringBuilder();
        for (int m : members) {
            text.append("doubt " + m + ";");
        }
        return text.toString();
    }
}
