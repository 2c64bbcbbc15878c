/** The first part of term 5 and promises 20 to 22: MERGED, SURE, LOST, and what is behind all DEEDS. */
final class MergeEdges {
    private static final int NONE = ThreePhases.NONE;
    private static final int[] FAR_OFF = {-1, 1, 2, Integer.MIN_VALUE, Integer.MAX_VALUE};
    /** 0 has PROOFS at 1 and 3, of ORDERS 0 and 1. */
    private static final String GAP = Deeds.prepared(0, 1, 0, 2, 3) + Deeds.prepared(0, 3, 1, 2, 3);
    /** One alone has LOW 4 and a PROOF at PLACE 12. */
    private static final String WIDE = Deeds.ALONE + "window 9;step 4;";
    private static final String LAST = "propose 0 1 0;propose 0 2 0;propose 0 3 0;propose 0 4 0;run 0;propose 0 12 1;";
    /** 1 and 2 have PROOFS of unlike ORDERS at PLACE 1. */
    private static final String UNLIKE = "propose 1 1 0;prepare 3 1 1;propose 2 1 1;prepare 3 2 1;";
    /** 0 and 3 have PROOFS of ORDER 0 at PLACE 1, but of unlike VIEWS. */
    private static final String TWO_VIEWS = Deeds.prepared(0, 1, 0, 1, 2) + Deeds.doubts(1, 2, 3)
        + "view 1;propose 3 1 0;prepare 2 3 1;";

    private MergeEdges() {
    }

    static void all() {
        Doc.about("Term 5");
        mergedSets();
        sures();
        losts();
        ends();
        certain();
        full();
        merged();
        sure();
        after();
    }

    private static int merged(String council, String run, int members, int what) {
        return Kit.with(council, run).merged(0, 0, Deeds.count(run), members, what);
    }

    private static int sure(String council, String run, int place) {
        return Kit.with(council, run).sure(0, 0, Deeds.count(run), place, false);
    }

    private static int lost(String council, String run, int place) {
        return Kit.with(council, run).sure(0, 0, Deeds.count(run), place, true);
    }

    private static int after(String council, String run, int what) {
        return Kit.with(council, run).after(0, 0, what);
    }

    private static void mergedSets() {
        Doc.says("Behind n DEEDS: MERGED of MEMBERS (bits): FROM, UPTO, ORDERS, "
            + "as if just these were not ACTIVE in a VIEW that is made.");
        int[] whats = {0, 1, 11, 12, 13, 14};
        int[] with = {0, 3, 0, 10, 1, NONE};
        int[] without = {0, 0, NONE, NONE, NONE, NONE};
        for (int k = 0; k < whats.length; k++) {
            Kit.due("with 0, " + whats[k], merged(Deeds.PAIR, GAP, 3, whats[k]), with[k]);
            Kit.due("0 alone, " + whats[k], merged(Deeds.PAIR, GAP, 1, whats[k]), with[k]);
            Kit.due("all, " + whats[k], merged(Deeds.PAIR, GAP, 15, whats[k]), with[k]);
            Kit.due("without 0, " + whats[k], merged(Deeds.PAIR, GAP, 14, whats[k]), without[k]);
            Kit.due("LIARS alone, " + whats[k], merged(Deeds.PAIR, GAP, 12, whats[k]), without[k]);
        }
        ThreePhases x = Kit.with(Deeds.PAIR, GAP);
        Kit.due("behind the DEED before", x.merged(0, 0, 5, 1, 1), 1);
        Kit.due("behind none", x.merged(0, 0, 0, 1, 1), 0);
        Kit.due("they stay ACTIVE", x.state(0, 0, 6, 0, 1), 1);
        Kit.due("no VIEW is made by it", x.after(0, 0, 2), 0);
        String cut = Deeds.far(1);
        Kit.due("FROM of one that is cut", merged(Deeds.PAIR + "step 1;", cut, 3, 0), 1);
        Kit.due("UPTO of one that is cut", merged(Deeds.PAIR + "step 1;", cut, 3, 1), 1);
        Kit.due("FROM without it", merged(Deeds.PAIR + "step 1;", cut, 2, 0), 0);
        Kit.due("the least ORDER", merged(Deeds.FALSE_FIRST, UNLIKE, 6, 11), 0);
        Kit.due("of one", merged(Deeds.FALSE_FIRST, UNLIKE, 4, 11), 1);
        String greater = TWO_VIEWS.replace("propose 3 1 0", "propose 3 1 1");
        Kit.due("the greatest VIEW", merged(Deeds.FALSE_HEADS, greater, 9, 11), 1);
        Kit.due("the greatest VIEW, of a MEMBER ahead", merged(Deeds.FALSE_HEADS, Deeds.TURNED, 9, 11), 1);
        Kit.due("an older VIEW alone", merged(Deeds.FALSE_HEADS, greater, 1, 11), 0);
        ThreePhases y = Kit.with(Deeds.FALSE_HEADS, greater);
        Kit.due("both", y.merged(0, 0, Deeds.count(greater), 9, 11), 1);
        Kit.due("then the older one alone", y.merged(0, 0, Deeds.count(greater), 1, 11), 0);
        Kit.due("UPTO the last PLACE", merged(WIDE, LAST, 1, 1), 12);
        Kit.due("the ORDER of the last PLACE", merged(WIDE, LAST, 1, 22), 1);
        String lying = Deeds.agreed(0, 1, 0, 1, 2) + "run 0;mark 1 0;mark 2 0;" + Deeds.doubts(0, 1, 2) + "view 1;";
        Kit.due("a LIAR tells LOW 0", merged(Deeds.FALSE_HEADS + "step 1;", lying, 2, 0), 0);
    }

    private static void sures() {
        Doc.says("SURE of a PLACE: the ORDER that it has by MERGED of each set of as many MEMBERS as a QUORUM, "
            + "if it is one in all");
        String both = "propose 0 1 1;propose 1 1 1;prepare 2 0 1;prepare 3 0 1;";
        Kit.due("one in all", sure(Deeds.PAIR, both + "prepare 2 1 1;", 1), 1);
        Kit.due("not by the set without 0", sure(Deeds.PAIR, both, 1), NONE);
        Kit.due("unlike ones", sure(Deeds.FALSE_FIRST, UNLIKE, 1), NONE);
        Kit.due("of VIEWS 0 and 1, but one ORDER", sure(Deeds.FALSE_HEADS, TWO_VIEWS, 1), 0);
        Kit.due("of one alone", sure(Deeds.ALONE, "propose 0 1 1;", 1), 1);
        Kit.due("of the last PLACE", sure(WIDE, LAST, 12), 1);
        Kit.due("NOTHING is one", sure(Deeds.ALONE, "propose 0 2 1;", 1), 10);
        Kit.due("five of seven",
            sure("faults 2;order 0 1;liar 3;liar 4;liar 5;liar 6;", "propose 0 1 0;propose 1 1 0;propose 2 1 0;"
                + "prepare 3 0 1;prepare 4 0 1;prepare 5 0 1;prepare 6 0 1;prepare 3 1 1;prepare 4 1 1;prepare 5 1 1;"
                + "prepare 3 2 1;prepare 4 2 1;prepare 5 2 1;", 1), 0);
        Doc.says("(a set by which FROM is that PLACE or above, or all of which are LIARS, does not count;");
        String cut = Deeds.agreed(0, 1, 0, 2, 3) + "propose 1 1 0;prepare 2 1 1;run 0;mark 2 0;mark 3 0;";
        Kit.due("FROM is that PLACE", sure(Deeds.PAIR + "step 1;", cut, 1), 0);
        Kit.due("FROM is below", sure(Deeds.PAIR + "step 1;", cut, 2), NONE);
        String two = Deeds.agreed(0, 1, 0, 2, 3) + Deeds.agreed(0, 2, 0, 2, 3)
            + "propose 1 1 0;prepare 2 1 1;propose 1 2 0;prepare 2 1 2;run 0;mark 2 0;mark 3 0;";
        Kit.due("FROM is above", sure(Deeds.PAIR, two, 1), 0);
        Kit.due("FROM is that PLACE", sure(Deeds.PAIR, two, 2), 0);
        String liars = Deeds.TWO + "liar 1;liar 2;liar 3;";
        Kit.due("all of 1, 2, 3 are LIARS", sure(liars, Deeds.prepared(0, 1, 1, 1, 2), 1), 1);
        Doc.says("where UPTO is below, it has none, which is not one);");
        Kit.due("no PROOF at all", sure(Deeds.PAIR, "propose 0 1 0;", 1), NONE);
        Kit.due("UPTO is below by one set", sure(Deeds.PAIR, Deeds.prepared(0, 1, 0, 2, 3), 1), NONE);
        Kit.due("UPTO is that PLACE", sure(Deeds.ALONE, "propose 0 2 1;", 2), 1);
        Kit.due("UPTO is below by all", sure(Deeds.ALONE, "propose 0 2 1;", 3), NONE);
    }

    private static void losts() {
        Doc.says("LOST of a PLACE: by how many of the sets that count MERGED has NOTHING or none there.");
        Kit.due("none by all", lost(Deeds.PAIR, "", 1), 4);
        Kit.due("none by all, at 12", lost(Deeds.PAIR, "", 12), 4);
        Kit.due("none by one set", lost(Deeds.PAIR, GAP, 1), 1);
        Kit.due("NOTHING by three, none by one", lost(Deeds.PAIR, GAP, 2), 4);
        Kit.due("at UPTO, none by one", lost(Deeds.PAIR, GAP, 3), 1);
        Kit.due("above UPTO", lost(Deeds.PAIR, GAP, 4), 4);
        Kit.due("unlike ones are not LOST", lost(Deeds.FALSE_FIRST, UNLIKE, 1), 0);
        String liars = Deeds.TWO + "liar 1;liar 2;liar 3;";
        Kit.due("a set of LIARS does not count", lost(liars, Deeds.prepared(0, 1, 1, 1, 2), 1), 0);
        Kit.due("three sets count", lost(liars, "", 1), 3);
        Kit.due("no set counts", lost(liars + "liar 0;", "", 1), 0);
        Kit.due("one set alone counts: FROM is that PLACE", lost(Deeds.PAIR + "step 1;", Deeds.far(1), 1), 1);
        Kit.due("all sets count: FROM is below", lost(Deeds.PAIR + "step 1;", Deeds.far(1), 2), 4);
        Kit.due("21 sets", lost("faults 2;", "", 1), 21);
        Kit.due("one set", lost("faults 0;", "", 1), 1);
    }

    private static void ends() {
        String entered = Deeds.far(1) + Deeds.doubts(0, 1, 2) + "view 1;";
        String council = Deeds.PAIR + "step 1;";
        Doc.says("Behind all DEEDS up to STOP:");
        Kit.due("DEEDS behind STOP are not done", after("", "doubt 0;run 0;doubt 1;", 1), 1);
        Kit.due("DEEDS up to STOP are", after("", "doubt 0;doubt 1;run 0;", 1), 3);
        Doc.says("BEHIND: HONEST ones (bits) RAN of whom is below LOW;");
        Kit.due("none at first", after(council, "", 0), 0);
        Kit.due("1, which entered; LIARS do not count", after(council, entered, 0), 2);
        String other = "propose 0 1 0;propose 3 1 0;prepare 1 3 1;commit 1 3 1;commit 2 3 1;run 3;mark 1 3;mark 2 3;"
            + Deeds.doubts(1, 2, 3) + "view 1;doubt 0;enter 0;";
        Kit.due("0, which entered", after(Deeds.FALSE_HEADS + "step 1;", other, 0), 1);
        Kit.due("RAN that is LOW", after(council, entered + "fetch 1 0;", 0), 0);
        Kit.due("RAN above LOW", after(Deeds.PAIR, Deeds.agreed(0, 1, 0, 2, 3) + "run 0;", 0), 0);
        Doc.says("STUCK: HONEST ones (bits) that are not ACTIVE;");
        Kit.due("none at first", after("", "", 1), 0);
        Kit.due("0 and 3", after("liar 2;", Deeds.doubts(0, 2, 3), 1), 9);
        Kit.due("none that entered", after("liar 2;", Deeds.doubts(0, 1, 2, 3) + "view 1;", 1), 0);
        Doc.says("VIEWS (bits) that were MADE;");
        Kit.due("none at first", after("", "", 2), 0);
        Kit.due("VIEW 1", after("", Deeds.doubts(0, 1, 3) + "view 1;", 2), 2);
        Kit.due("VIEW 9", after("", Deeds.doubts(0, 1, 3).repeat(9) + "view 1;", 2), 512);
        Kit.due("VIEWS 1 and 2", after("faults 0;", "doubt 0;view 0;doubt 0;view 0;doubt 0;", 2), 6);
    }

    private static void certain() {
        Doc.says("CERTAIN: PLACES (bits) of which more than FAULTS of HONEST ones have a PROOF of one VIEW and ORDER;");
        String one = "propose 0 1 1;propose 1 1 1;prepare 2 0 1;prepare 3 0 1;";
        Kit.due("as many as FAULTS", after(Deeds.PAIR, one, 3), 0);
        Kit.due("one more than FAULTS", after(Deeds.PAIR, one + "prepare 2 1 1;", 3), 2);
        Kit.due("unlike ORDERS", after(Deeds.FALSE_FIRST, UNLIKE, 3), 0);
        Kit.due("unlike VIEWS", after(Deeds.FALSE_HEADS, TWO_VIEWS, 3), 0);
        Kit.due("FAULTS 0: one is more", after(Deeds.ALONE, "propose 0 1 0;propose 0 4 0;", 3), 18);
        Kit.due("of the last PLACE", after(WIDE, LAST, 3), 1 << 12);
        Kit.due("PROOFS stay where one doubts", after(Deeds.ALONE, "propose 0 1 0;doubt 0;", 3), 2);
        Kit.due("not up to LOW", after(Deeds.ALONE, "propose 0 1 0;propose 0 2 0;propose 0 3 0;run 0;", 3), 8);
        Doc.says("WORDS: how many PREPARES, COMMITS there are in all that is ACCEPTED by HONEST ones, together;");
        Kit.due("none at first", after(Deeds.PAIR, "", 4), 0);
        Kit.due("one PREPARE", after(Deeds.PAIR, "propose 0 1 0;", 4), 1);
        Kit.due("of two MEMBERS", after(Deeds.PAIR, "propose 0 1 0;propose 1 1 0;", 4), 3);
        Kit.due("PREPARES and one's own COMMIT", after(Deeds.PAIR, Deeds.prepared(0, 1, 0, 2, 3), 4), 4);
        Kit.due("PREPARES and COMMITS", after(Deeds.PAIR, Deeds.agreed(0, 1, 0, 2, 3), 4), 6);
        Kit.due("at two PLACES", after(Deeds.PAIR, Deeds.agreed(0, 1, 0, 2, 3) + "propose 0 4 1;", 4), 7);
        Kit.due("at the last PLACE", after(WIDE, LAST, 4), 2);
        Kit.due("no more behind a doubt", after(Deeds.PAIR, Deeds.agreed(0, 1, 0, 2, 3) + "doubt 0;", 4), 0);
        Kit.due("no more up to LOW", after(Deeds.PAIR + "step 1;", Deeds.far(1), 4), 0);
    }

    private static void full() {
        Doc.says("FULL: HONEST ones (bits) that have ACCEPTED all PLACES above LOW, up to LOW and WINDOW (and 12).");
        String council = Deeds.ALONE + "window 2;";
        Kit.due("none ACCEPTED", after(council, "", 5), 0);
        Kit.due("the first alone", after(council, "propose 0 1 0;", 5), 0);
        Kit.due("the second alone", after(council, "propose 0 2 0;", 5), 0);
        Kit.due("both", after(council, "propose 0 1 0;propose 0 2 0;", 5), 1);
        Kit.due("LOW is above them", after(council, "propose 0 1 0;propose 0 2 0;run 0;", 5), 0);
        Kit.due("both above LOW", after(council, "propose 0 1 0;propose 0 2 0;run 0;propose 0 3 0;propose 0 4 0;", 5), 1);
        Kit.due("0 and 2, not 1, no LIAR", after(Deeds.TWO + "liar 3;window 1;", "propose 0 1 0;propose 2 1 0;", 5), 5);
        StringBuilder run = new StringBuilder();
        for (int s = 1; s <= 11; s++) {
            run.append("propose 0 " + s + " 0;run 0;");
        }
        String near = Deeds.ALONE + "window 9;step 1;";
        Kit.due("LOW 11, 12 is not ACCEPTED", after(near, run.toString(), 5), 0);
        Kit.due("LOW 11, and 12", after(near, run + "propose 0 12 0;", 5), 1);
        Kit.due("LOW 12: no PLACE is wanting", after(near, run + "propose 0 12 0;run 0;", 5), 1);
    }

    private static void merged() {
        Doc.about("Promise 20");
        Doc.says("MERGED of MEMBERS (bits), what 0: FROM, 1: UPTO, 10 + s: the ORDER of a PLACE (NONE: none).");
        String run = Deeds.far(1) + Deeds.prepared(0, 3, 0, 2, 3);
        ThreePhases x = Kit.with(Deeds.PAIR + "step 1;", run);
        int n = Deeds.count(run);
        int[][] due = {{0, 1}, {1, 3}, {11, NONE}, {12, 10}, {13, 0}, {14, NONE}, {22, NONE}};
        for (int[] pair : due) {
            Kit.due("what " + pair[0], x.merged(0, 0, n, 9, pair[0]), pair[1]);
        }
        Doc.says("-2: there is no such STATE, MEMBER (of any), no MEMBERS, or for another what.");
        for (int k : FAR_OFF) {
            Kit.due("COUNCIL " + k, x.merged(k, 0, 0, 1, 0), -2);
            Kit.due("RUN " + k, x.merged(0, k, 0, 1, 0), -2);
        }
        for (int k : new int[] {-1, n + 1, Integer.MIN_VALUE, Integer.MAX_VALUE}) {
            Kit.due("n " + k, x.merged(0, 0, k, 1, 0), -2);
        }
        for (int bits : new int[] {0, 16, 17, 31, 64, -1, 1 << 30, Integer.MIN_VALUE, Integer.MIN_VALUE + 1}) {
            Kit.due("bits " + bits, x.merged(0, 0, n, bits, 0), -2);
        }
        Kit.due("all of four", x.merged(0, 0, n, 15, 0), 1);
        Kit.due("all of seven", merged("faults 2;", "", 127, 0), 0);
        Kit.due("eight of seven", merged("faults 2;", "", 128, 0), -2);
        Kit.due("all of one", merged("faults 0;", "", 1, 0), 0);
        Kit.due("two of one", merged("faults 0;", "", 3, 0), -2);
        for (int what : new int[] {-1, 2, 9, 10, 23, 100, Integer.MIN_VALUE, Integer.MAX_VALUE}) {
            Kit.due("what " + what, x.merged(0, 0, n, 1, what), -2);
        }
    }

    private static void sure() {
        Doc.about("Promise 21");
        Doc.says("SURE of a PLACE (NONE: not one, or no set counts), or (lost) LOST.");
        ThreePhases x = Kit.with(Deeds.ALONE, "propose 0 1 1;propose 0 3 0;");
        int[] due = {1, 10, 0, NONE};
        int[] lost = {0, 1, 0, 1};
        for (int s = 1; s <= 4; s++) {
            Kit.due("SURE of " + s, x.sure(0, 0, 2, s, false), due[s - 1]);
            Kit.due("LOST of " + s, x.sure(0, 0, 2, s, true), lost[s - 1]);
        }
        Kit.due("not one", sure(Deeds.FALSE_FIRST, UNLIKE, 1), NONE);
        Kit.due("no set counts: LIARS", sure("liar 0;liar 1;liar 2;liar 3;", "", 1), NONE);
        Kit.due("no set counts: FROM", sure(Deeds.ALONE, "propose 0 1 1;propose 0 2 1;run 0;", 2), NONE);
        Kit.due("no set counts, LOST", lost(Deeds.ALONE, "propose 0 1 1;propose 0 2 1;run 0;", 2), 0);
        Doc.says("-2: there is no such STATE, PLACE.");
        for (int k : FAR_OFF) {
            Kit.due("COUNCIL " + k, x.sure(k, 0, 0, 1, false), -2);
            Kit.due("RUN " + k, x.sure(0, k, 0, 1, true), -2);
        }
        for (int n : new int[] {-1, 3, Integer.MIN_VALUE, Integer.MAX_VALUE}) {
            Kit.due("n " + n, x.sure(0, 0, n, 1, false), -2);
        }
        for (int s : new int[] {-1, 0, 13, Integer.MIN_VALUE, Integer.MAX_VALUE}) {
            Kit.due("SURE of PLACE " + s, x.sure(0, 0, 2, s, false), -2);
            Kit.due("LOST of PLACE " + s, x.sure(0, 0, 2, s, true), -2);
        }
        Kit.due("LOST of PLACE 12", x.sure(0, 0, 2, 12, true), 1);
    }

    private static void after() {
        Doc.about("Promise 22");
        Doc.says("What 0: BEHIND, 1: STUCK, 2: VIEWS, 3: CERTAIN (bits), 4: WORDS, 5: FULL (bits).");
        String run = Deeds.far(1) + Deeds.doubts(0, 1, 2) + "view 1;propose 1 2 0;propose 0 2 0;"
            + "prepare 2 0 2;prepare 2 1 2;prepare 3 1 2;doubt 1;";
        ThreePhases x = Kit.with(Deeds.PAIR + "step 1;window 1;", run);
        int[] due = {2, 2, 2, 4, 4, 1};
        for (int what = 0; what < 6; what++) {
            Kit.due("what " + what, x.after(0, 0, what), due[what]);
        }
        Doc.says("-2: there is none such (of either), or for another what.");
        for (int k : FAR_OFF) {
            Kit.due("COUNCIL " + k, x.after(k, 0, 0), -2);
            Kit.due("RUN " + k, x.after(0, k, 0), -2);
        }
        for (int what : new int[] {-1, 6, 7, 10, Integer.MIN_VALUE, Integer.MAX_VALUE}) {
            Kit.due("what " + what, x.after(0, 0, what), -2);
        }
    }
}
