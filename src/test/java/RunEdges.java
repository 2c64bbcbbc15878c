/** Term 2 and promises 8 to 11: each DEED, where it may be and where it can't, and what is behind it. */
final class RunEdges {
    private static final int NONE = ThreePhases.NONE;

    private RunEdges() {
    }

    static void all() {
        Doc.about("Term 2");
        members();
        primaries();
        phases();
        propose();
        prepare();
        commit();
        run();
        checkpoints();
        roots();
        mark();
        cuts();
        fetch();
        doubt();
        view();
        merging();
        enter();
        cannotBe();
        stop();
        state();
        made();
        unlike();
    }

    private static void members() {
        Doc.says("A MEMBER has a VIEW (0 at first) and is ACTIVE in it (at first) or not; LOW (0), RAN (0), ACCOUNTS (as told);");
        ThreePhases x = Kit.with("liar 3;account 0 9;account 7 99;" + Deeds.TWO, "");
        for (int m = 0; m < 4; m++) {
            int[] due = {0, 1, 0, 0};
            for (int what = 0; what < 4; what++) {
                Kit.due("at first, MEMBER " + m + ", " + what, x.state(0, 0, 0, m, what), due[what]);
            }
            Kit.due("ACCOUNT 0", x.state(0, 0, 0, m, 10), 9);
            Kit.due("ACCOUNT 7", x.state(0, 0, 0, m, 17), 99);
            Kit.due("no CHECKPOINT", x.state(0, 0, 0, m, 6), NONE);
        }
        Kit.due("or not", Deeds.has("", "doubt 0;", 0, 1), 0);
        Doc.says("at PLACES above LOW, up to LOW and WINDOW, maybe an ORDER that it ACCEPTED, with PREPARES, COMMITS (MEMBERS);");
        String two = "propose 0 1 0;propose 0 2 1;";
        String council = Deeds.ALONE + "step 2;window 2;";
        int[] before = {0, 1, 1, 1, 1, 1};
        int[] behind = {NONE, NONE, 0, 0, 0, 0};
        int[] whats = {100, 200, 101, 201, 102, 202};
        for (int k = 0; k < whats.length; k++) {
            Kit.due("above LOW, " + whats[k], Deeds.has(council, two, 0, whats[k]), before[k]);
            Kit.due("not up to LOW, " + whats[k], Deeds.has(council, two + "run 0;", 0, whats[k]), behind[k]);
        }
        Kit.due("up to LOW and WINDOW", Deeds.has(council, two + "run 0;propose 0 4 0;", 0, 400), 0);
        Kit.due("maybe none", Deeds.has(council, two + "run 0;propose 0 4 0;", 0, 300), NONE);
        Deeds.cannot("no PLACE above LOW and WINDOW", council, two + "run 0;propose 0 5 0;");
        Doc.says("PROOFS, of a PLACE a VIEW and an ORDER.");
        Kit.due("VIEW", Deeds.has(Deeds.ALONE, "propose 0 3 1;", 0, 305), 0);
        Kit.due("ORDER", Deeds.has(Deeds.ALONE, "propose 0 3 1;", 0, 306), 1);
        Kit.due("VIEW of another PLACE", Deeds.has(Deeds.ALONE, "propose 0 3 1;", 0, 205), NONE);
        Kit.due("ORDER of another PLACE", Deeds.has(Deeds.ALONE, "propose 0 3 1;", 0, 206), NONE);
    }

    private static void primaries() {
        Doc.says("PRIMARY of a VIEW: the remainder of it by how many MEMBERS there are.");
        Deeds.may("VIEW 1 of one", Deeds.ALONE, "doubt 0;view 0;");
        Deeds.may("VIEW 2 of one", Deeds.ALONE, "doubt 0;doubt 0;view 0;");
        Deeds.may("VIEW 3 of four", "", Deeds.doubts(0, 1, 3).repeat(3) + "view 3;");
        Deeds.cannot("VIEW 3 of four", "", Deeds.doubts(0, 1, 3).repeat(3) + "view 0;");
        Deeds.may("VIEW 4 of four", "", Deeds.doubts(0, 1, 3).repeat(4) + "view 0;");
        Deeds.cannot("VIEW 4 of four", "", Deeds.doubts(0, 1, 3).repeat(4) + "view 1;");
        Deeds.may("VIEW 5 of four", "", Deeds.doubts(0, 1, 3).repeat(5) + "view 1;");
        Deeds.may("VIEW 9 of four", "", Deeds.doubts(0, 1, 3).repeat(9) + "view 1;");
        Deeds.may("VIEW 6 of seven", "faults 2;", Deeds.doubts(0, 1, 2, 3, 6).repeat(6) + "view 6;");
        Deeds.may("VIEW 7 of seven", "faults 2;", Deeds.doubts(0, 1, 2, 3, 6).repeat(7) + "view 0;");
        Deeds.cannot("VIEW 7 of seven", "faults 2;", Deeds.doubts(0, 1, 2, 3, 6).repeat(7) + "view 6;");
    }

    private static void phases() {
        String liars = Deeds.TWO + "liar 1;liar 2;liar 3;";
        String all = "propose 0 1 1;prepare 1 0 1;prepare 2 0 1;prepare 3 0 1;";
        ThreePhases x = Kit.with(liars, all);
        Doc.says("PREPARED is an ACCEPTED PLACE with a QUORUM or more of PREPARES;");
        int[] prepared = {0, 0, 0, 1, 1};
        for (int n = 0; n <= 4; n++) {
            Kit.due("with " + n + " PREPARES", x.state(0, 0, n, 0, 103), prepared[n]);
        }
        Kit.due("not a PLACE that is not ACCEPTED", Deeds.has(Deeds.ALONE, "propose 0 1 0;", 0, 203), 0);
        Doc.says("as soon as it is, it is the PROOF of that PLACE (by this VIEW, in place of an older one),");
        int[] views = {NONE, NONE, NONE, 0, 0};
        int[] orders = {NONE, NONE, NONE, 1, 1};
        for (int n = 0; n <= 4; n++) {
            Kit.due("VIEW of the PROOF with " + n, x.state(0, 0, n, 0, 105), views[n]);
            Kit.due("ORDER of the PROOF with " + n, x.state(0, 0, n, 0, 106), orders[n]);
        }
        String later = Deeds.prepared(0, 1, 1, 2, 3) + Deeds.doubts(1, 2, 3) + "view 1;doubt 0;enter 0;propose 0 1 0;";
        Kit.due("the older one stays till then", Deeds.has(liars, later, 0, 105), 0);
        Kit.due("its ORDER, too", Deeds.has(liars, later, 0, 106), 1);
        Kit.due("by this VIEW", Deeds.has(liars, later + "prepare 2 0 1;", 0, 105), 1);
        Kit.due("in place of the older one", Deeds.has(liars, later + "prepare 2 0 1;", 0, 106), 0);
        Doc.says("and the MEMBER is one of its own COMMITS.");
        int[] commits = {0, 0, 0, 1, 1};
        for (int n = 0; n <= 4; n++) {
            Kit.due("COMMITS with " + n + " PREPARES", x.state(0, 0, n, 0, 102), commits[n]);
        }
        Doc.says("COMMITTED: PREPARED, with a QUORUM or more of COMMITS.");
        x = Kit.with(liars, all.substring(0, 42) + "commit 1 0 1;commit 2 0 1;commit 3 0 1;");
        int[] committed = {0, 0, 0, 0, 0, 1, 1};
        for (int n = 0; n <= 6; n++) {
            Kit.due("behind " + n + " DEEDS", x.state(0, 0, n, 0, 104), committed[n]);
        }
        x = Kit.with(liars, "propose 0 1 1;commit 1 0 1;commit 2 0 1;commit 3 0 1;prepare 1 0 1;prepare 2 0 1;");
        Kit.due("a QUORUM of COMMITS, not PREPARED", x.state(0, 0, 4, 0, 104), 0);
        Kit.due("nor with PREPARES below a QUORUM", x.state(0, 0, 5, 0, 104), 0);
        Kit.due("PREPARED, too", x.state(0, 0, 6, 0, 104), 1);
    }

    private static void propose() {
        Doc.says("propose M s o: M, HONEST and ACTIVE, has no ACCEPTED ORDER at s,");
        Deeds.may("HONEST and ACTIVE", Deeds.TWO, "propose 0 1 0;");
        Deeds.cannot("a LIAR", Deeds.TWO + "liar 0;", "propose 0 1 0;");
        Deeds.cannot("a LIAR like its PRIMARY", Deeds.TWO + "liar 3;", "propose 0 1 0;propose 3 1 0;");
        Deeds.cannot("one that is not ACTIVE", Deeds.ALONE, "doubt 0;propose 0 1 0;");
        Deeds.may("one that is ACTIVE again", Deeds.ALONE, "doubt 0;view 0;propose 0 1 0;");
        Deeds.cannot("the same again", Deeds.TWO, "propose 0 1 0;propose 0 1 0;");
        Deeds.cannot("another at that PLACE", Deeds.TWO, "propose 0 1 0;propose 0 1 1;");
        Deeds.may("the same at another PLACE", Deeds.TWO, "propose 0 1 0;propose 0 2 0;");
        Doc.says("which is above its LOW, up to LOW and WINDOW;");
        Deeds.may("WINDOW, at first", Deeds.TWO, "propose 0 4 0;");
        Deeds.cannot("WINDOW and one, at first", Deeds.TWO, "propose 0 5 0;");
        Deeds.may("the greatest WINDOW", Deeds.TWO + "window 9;", "propose 0 9 0;");
        Deeds.cannot("behind the greatest WINDOW", Deeds.TWO + "window 9;", "propose 0 10 0;");
        String two = "propose 0 1 0;propose 0 2 0;run 0;";
        String council = Deeds.ALONE + "window 2;";
        Deeds.cannot("a PLACE below LOW", council, two + "propose 0 1 0;");
        Deeds.cannot("LOW itself", council, two + "propose 0 2 0;");
        Deeds.may("LOW and one", council, two + "propose 0 3 0;");
        Deeds.may("LOW and WINDOW", council, two + "propose 0 4 0;");
        Deeds.cannot("LOW, WINDOW and one", council, two + "propose 0 5 0;");
        String four = "propose 0 1 0;propose 0 2 0;propose 0 3 0;propose 0 4 0;run 0;";
        Deeds.may("the last PLACE", Deeds.ALONE + "window 9;step 4;", four + "propose 0 12 0;");
        Doc.says("its PRIMARY is a LIAR, or M itself, or HONEST, ACTIVE in the same VIEW, and has ACCEPTED o at s:");
        Deeds.may("a lying PRIMARY", Deeds.FALSE_FIRST, "propose 1 1 0;propose 2 1 1;");
        Deeds.may("a lying PRIMARY that is not ACTIVE", Deeds.FALSE_FIRST, "doubt 0;propose 1 1 0;");
        Deeds.may("M itself", Deeds.TWO, "propose 0 4 1;");
        Deeds.may("as the PRIMARY has it", Deeds.TWO, "propose 0 1 1;propose 3 1 1;");
        Deeds.cannot("what the PRIMARY has not ACCEPTED", Deeds.TWO, "propose 3 1 1;");
        Deeds.cannot("what it has at another PLACE", Deeds.TWO, "propose 0 2 1;propose 3 1 1;");
        Deeds.cannot("unlike the PRIMARY", Deeds.TWO, "propose 0 1 1;propose 3 1 0;");
        Deeds.cannot("of a PRIMARY that doubts", Deeds.TWO, "propose 0 1 1;doubt 0;propose 3 1 1;");
        String next = Deeds.prepared(0, 1, 1, 2, 3) + Deeds.doubts(0, 1, 2) + "view 1;";
        Deeds.may("by the PRIMARY of a later VIEW", Deeds.PAIR, next + "propose 1 2 0;");
        Deeds.cannot("by the PRIMARY of an older VIEW", Deeds.PAIR, next + "propose 0 2 0;");
        String gone = "propose 0 1 0;propose 3 1 0;prepare 3 0 1;prepare 1 0 1;" + Deeds.doubts(0, 1, 2) + "view 1;";
        Deeds.cannot("a PRIMARY that has it in another VIEW", Deeds.TWO + "liar 1;", gone + "propose 0 2 0;propose 3 2 0;");
        Doc.says("M has ACCEPTED o at s then, PREPARES being the PRIMARY and M.");
        Kit.due("ACCEPTED", Deeds.has(Deeds.TWO, "propose 0 3 1;propose 2 3 1;", 2, 300), 1);
        Kit.due("PREPARES", Deeds.has(Deeds.TWO, "propose 0 3 1;propose 2 3 1;", 2, 301), 5);
        Kit.due("PREPARES of the PRIMARY", Deeds.has(Deeds.TWO, "propose 0 3 1;", 0, 301), 1);
        Kit.due("no COMMITS yet", Deeds.has(Deeds.TWO, "propose 0 3 1;", 0, 302), 0);
        String next1 = Deeds.doubts(1, 2, 3) + "view 1;propose 3 1 0;";
        Kit.due("PREPARES in VIEW 1", Deeds.has("order 0 1;liar 1;", next1, 3, 101), 10);
        Kit.due("others have nothing by it", Deeds.has(Deeds.TWO, "propose 0 3 1;propose 2 3 1;", 1, 300), NONE);
        Doc.says("(o is one of the ORDERS.)");
        Deeds.may("the last ORDER", Deeds.TWO, "propose 0 1 1;");
        Deeds.cannot("one behind the last", Deeds.TWO, "propose 0 1 2;");
        Deeds.cannot("any, if there are none", "", "propose 0 1 0;");
        Deeds.may("the tenth", "order 0 1;".repeat(10), "propose 0 1 9;");
        Deeds.cannot("a LIAR's that is none", Deeds.FALSE_FIRST, "propose 1 1 2;");
    }

    private static void prepare() {
        String both = "propose 0 1 0;propose 1 1 0;";
        Doc.says("prepare A B s: B, HONEST and ACTIVE, has ACCEPTED s, A is none of its PREPARES there,");
        Deeds.may("one that it has not yet", Deeds.TWO, both + "prepare 1 0 1;");
        Deeds.cannot("to a LIAR", Deeds.TWO + "liar 3;", both + "prepare 0 3 1;");
        Deeds.cannot("to one that doubts", Deeds.TWO + "liar 3;", both + "doubt 0;prepare 3 0 1;");
        Deeds.cannot("to one that has not ACCEPTED", Deeds.TWO, both + "prepare 1 2 1;");
        Deeds.cannot("at another PLACE", Deeds.TWO + "liar 3;", both + "prepare 3 0 2;");
        Deeds.cannot("of the PRIMARY, which is there", Deeds.TWO, both + "prepare 0 1 1;");
        Deeds.cannot("the same again", Deeds.TWO, both + "prepare 1 0 1;prepare 1 0 1;");
        Deeds.cannot("a LIAR's again", Deeds.TWO + "liar 3;", both + "prepare 3 0 1;prepare 3 0 1;");
        Deeds.may("of one that it has at another PLACE", Deeds.TWO,
            both + "prepare 1 0 1;propose 0 2 0;propose 1 2 0;prepare 1 0 2;");
        Doc.says("and is a LIAR, or ACTIVE in the same VIEW, and has ACCEPTED the same ORDER at s: it is one of them.");
        Deeds.may("a LIAR", Deeds.TWO + "liar 3;", both + "prepare 3 0 1;");
        Deeds.may("a LIAR of another VIEW", Deeds.TWO + "liar 3;", both + "doubt 3;prepare 3 0 1;");
        Deeds.cannot("one that has not ACCEPTED", Deeds.TWO, both + "prepare 2 0 1;");
        Deeds.cannot("one that has ACCEPTED another ORDER", Deeds.FALSE_FIRST, "propose 1 1 0;propose 2 1 1;prepare 1 2 1;");
        Deeds.may("one that has ACCEPTED the same", Deeds.FALSE_FIRST, "propose 1 1 0;propose 2 1 0;prepare 1 2 1;");
        Deeds.cannot("one that doubts", Deeds.TWO, both + "doubt 1;prepare 1 0 1;");
        String later = "propose 0 1 0;propose 3 1 0;" + Deeds.doubts(1, 2) + "doubt 3;view 1;propose 3 1 0;";
        Deeds.cannot("one that has it in another VIEW", Deeds.FALSE_HEADS, later + "prepare 3 0 1;");
        Deeds.cannot("one that has it in an older VIEW", Deeds.FALSE_HEADS, later + "prepare 0 3 1;");
        Kit.due("it is one of them", Deeds.has(Deeds.TWO, both + "prepare 1 0 1;", 0, 101), 3);
        Kit.due("a LIAR is one of them", Deeds.has(Deeds.TWO + "liar 3;", both + "prepare 3 1 1;", 1, 101), 11);
        Kit.due("not one of the other's", Deeds.has(Deeds.TWO + "liar 3;", both + "prepare 3 1 1;", 0, 101), 1);
    }

    private static void commit() {
        Doc.says("commit A B s: so, of COMMITS, but A that is no LIAR must be PREPARED there.");
        String liar = Deeds.TWO + "liar 3;";
        String both = "propose 0 1 0;propose 1 1 0;";
        Deeds.may("a LIAR's", liar, both + "commit 3 0 1;");
        Deeds.cannot("a LIAR's again", liar, both + "commit 3 0 1;commit 3 0 1;");
        Deeds.may("a LIAR's of another VIEW", liar, both + "doubt 3;commit 3 0 1;");
        Deeds.cannot("to a LIAR", liar, both + "prepare 1 0 1;prepare 3 0 1;commit 0 3 1;");
        Deeds.cannot("to one that doubts", liar, both + "doubt 0;commit 3 0 1;");
        Deeds.cannot("to one that has not ACCEPTED", liar, both + "commit 3 2 1;");
        Deeds.cannot("at another PLACE", liar, both + "commit 3 0 2;");
        Deeds.cannot("of one that is not PREPARED", liar, both + "commit 1 0 1;");
        Deeds.may("of one that is", liar, both + "prepare 3 1 1;commit 1 0 1;");
        Deeds.may("to one that is PREPARED", liar, both + "prepare 3 0 1;prepare 1 0 1;prepare 3 1 1;commit 1 0 1;");
        Deeds.cannot("the same again", liar, both + "prepare 3 1 1;commit 1 0 1;commit 1 0 1;");
        Deeds.cannot("of one that is PREPARED with another ORDER", Deeds.FALSE_FIRST,
            "propose 1 1 0;propose 2 1 1;prepare 3 1 1;commit 1 2 1;");
        Deeds.cannot("of one that was PREPARED and doubts", liar, both + "prepare 3 1 1;doubt 1;commit 1 0 1;");
        String later = "propose 0 1 0;propose 3 1 0;" + Deeds.doubts(1, 2, 3) + "view 1;propose 3 1 0;prepare 2 3 1;";
        Deeds.cannot("of one that is PREPARED in another VIEW", Deeds.FALSE_HEADS, later + "commit 3 0 1;");
        Kit.due("it is one of them", Deeds.has(liar, both + "prepare 3 1 1;commit 1 0 1;commit 3 0 1;", 0, 102), 10);
        Kit.due("PREPARES stay", Deeds.has(liar, both + "commit 3 0 1;", 0, 101), 1);
    }

    private static void run() {
        Doc.says("run M: M, HONEST, has COMMITTED the PLACE behind RAN:");
        Deeds.may("COMMITTED", Deeds.ALONE, "propose 0 1 0;run 0;");
        Deeds.cannot("nothing COMMITTED", Deeds.ALONE, "run 0;");
        Deeds.cannot("the next but one", Deeds.ALONE, "propose 0 2 0;run 0;");
        Deeds.cannot("PREPARED alone", Deeds.PAIR, Deeds.prepared(0, 1, 0, 2, 3) + "commit 2 0 1;run 0;");
        Deeds.may("with the last COMMIT", Deeds.PAIR, Deeds.agreed(0, 1, 0, 2, 3) + "run 0;");
        Deeds.cannot("again", Deeds.ALONE + "step 4;", "propose 0 1 0;run 0;run 0;");
        Deeds.cannot("a LIAR", Deeds.ALONE + "liar 0;", "run 0;");
        Deeds.cannot("one that was COMMITTED and doubts", Deeds.ALONE, "propose 0 1 0;doubt 0;run 0;");
        Doc.says("it RUNS that, and on, as long as the next one is COMMITTED:");
        String council = Deeds.ALONE + "step 4;";
        String gap = "propose 0 1 0;propose 0 2 1;propose 0 4 0;run 0;";
        Kit.due("up to the gap", Deeds.has(council, gap, 0, 3), 2);
        Kit.due("RUN at 1", Deeds.has(council, gap, 0, 107), 0);
        Kit.due("RUN at 2", Deeds.has(council, gap, 0, 207), 1);
        Kit.due("not RUN at 4", Deeds.has(council, gap, 0, 407), NONE);
        Kit.due("the gap filled", Deeds.has(council, gap + "propose 0 3 1;run 0;", 0, 3), 4);
        Kit.due("RUN at 4", Deeds.has(council, gap + "propose 0 3 1;run 0;", 0, 407), 0);
        StringBuilder twelve = new StringBuilder();
        for (int s = 1; s <= 12; s++) {
            twelve.append("propose 0 " + s + " 0;" + (s % 4 == 0 ? "run 0;" : ""));
        }
        Kit.due("up to the last PLACE", Deeds.has(council, twelve.toString(), 0, 3), 12);
        Deeds.cannot("behind the last PLACE", council, twelve + "run 0;");
        Doc.says("an ORDER's ACCOUNT is PLUS more, remainder by 100 (NOTHING changes nothing), RAN is that PLACE.");
        String one = "propose 0 1 0;run 0;";
        int[][] sums = {{0, 0, 0}, {0, 99, 99}, {1, 99, 0}, {99, 1, 0}, {99, 99, 98}, {98, 1, 99}};
        for (int[] sum : sums) {
            String text = "faults 0;account 3 " + sum[0] + ";order 3 " + sum[1] + ";";
            Kit.due(sum[0] + " and " + sum[1], Deeds.has(text, one, 0, 13), sum[2]);
            Kit.due("another ACCOUNT", Deeds.has(text, one, 0, 12), 0);
            Kit.due("RAN", Deeds.has(text, one, 0, 3), 1);
        }
        String nothing = "propose 0 2 1;doubt 0;view 0;run 0;";
        Kit.due("NOTHING is RUN", Deeds.has(Deeds.ALONE, nothing, 0, 107), 10);
        Kit.due("RAN behind it", Deeds.has(Deeds.ALONE, nothing, 0, 3), 2);
        Kit.due("it changes nothing", Deeds.has(Deeds.ALONE, nothing, 0, 10), 0);
        Kit.due("the one behind it does", Deeds.has(Deeds.ALONE, nothing, 0, 11), 7);
    }

    private static void checkpoints() {
        Doc.says("Behind a PLACE divided by STEP it has a CHECKPOINT: that PLACE, ACCOUNTS as they are then "
            + "(in place of the older one); it is its own VOTE.");
        StringBuilder run = new StringBuilder();
        for (int s = 1; s <= 12; s++) {
            run.append("propose 0 " + s + " 0;run 0;");
            for (int step = 1; step <= 4; step++) {
                int last = s / step * step;
                Kit.due("STEP " + step + ", RAN " + s, Deeds.has(Deeds.ALONE + "step " + step + ";", run.toString(), 0, 6),
                    last == 0 ? NONE : last);
            }
        }
        String four = "propose 0 1 0;propose 0 2 0;propose 0 3 0;propose 0 4 0;run 0;";
        Kit.due("two at once: the later", Deeds.has(Deeds.ALONE, four, 0, 6), 4);
        String three = Deeds.far(3) + Deeds.doubts(0, 1, 2) + "view 1;fetch 1 0;";
        Kit.due("RAN at 0", Deeds.has(Deeds.PAIR, three, 0, 3), 3);
        Kit.due("as they are by 3", Deeds.has(Deeds.PAIR, three, 0, 11), 14);
        Kit.due("as they were by 2", Deeds.has(Deeds.PAIR, three, 1, 11), 7);
        Kit.due("ACCOUNT 0", Deeds.has(Deeds.PAIR, three, 1, 10), 5);
        Kit.due("its own VOTE", Deeds.has(Deeds.ALONE, "propose 0 1 0;propose 0 2 0;run 0;", 0, 2), 2);
        Kit.due("its own and one are not enough", Deeds.has(Deeds.PAIR, Deeds.far(2).replace("mark 3 0;", ""), 0, 2), 0);
        Kit.due("its own and two are", Deeds.has(Deeds.PAIR, Deeds.far(2), 0, 2), 2);
    }

    private static void roots() {
        Doc.says("ROOT of ACCOUNTS: a tree's: SUM of a leaf is what an ACCOUNT has; of a node 31 times that of the left one, "
            + "and 17 times that of the right one, and 7, remainder by 9973 (node 1 is the ROOT; node k has 2 k on the left, "
            + "2 k and 1 on the right; nodes 8 to 15 are ACCOUNTS 0 to 7).");
        // Nothing at all: 7, 7 * 48 + 7 = 343, 343 * 48 + 7 = 16471, which is 6498 by 9973.
        ThreePhases x = Kit.with("", "");
        int[] empty = {6498, 343, 343, 7, 7, 7, 7, 0, 0, 0, 0, 0, 0, 0, 0};
        for (int node = 1; node < 16; node++) {
            Kit.due("node " + node + " of nothing", x.tree(0, node), empty[node - 1]);
        }
        Kit.due("ROOT of nothing", x.state(0, 0, 0, 0, 4), 6498);
        x = Kit.with("account 0 1;account 1 2;account 2 3;account 3 4;account 4 5;account 5 6;account 6 7;account 7 99;", "");
        int four = 31 + 17 * 2 + 7;
        int five = 31 * 3 + 17 * 4 + 7;
        int six = 31 * 5 + 17 * 6 + 7;
        int seven = 31 * 7 + 17 * 99 + 7;
        int two = (31 * four + 17 * five + 7) % 9973;
        int three = (31 * six + 17 * seven + 7) % 9973;
        int[] due = {(31 * two + 17 * three + 7) % 9973, two, three, four, five, six, seven, 1, 2, 3, 4, 5, 6, 7, 99};
        for (int node = 1; node < 16; node++) {
            Kit.due("node " + node, x.tree(0, node), due[node - 1]);
        }
        Kit.due("ROOT", x.state(0, 0, 0, 3, 4), due[0]);
        x = Kit.with("account 0 99;account 1 99;account 2 99;account 3 99;account 4 99;account 5 99;account 6 99;account 7 99;");
        // 99 * 48 + 7 = 4759; 4759 * 48 + 7 = 228439, 9033; 9033 * 48 + 7 = 433591, 4752.
        Kit.due("node 4 of the most", x.tree(0, 4), 4759);
        Kit.due("node 2 of the most", x.tree(0, 2), 9033);
        Kit.due("ROOT of the most", x.tree(0, 1), 4752);
    }

    private static void mark() {
        String council = Deeds.PAIR + "step 1;";
        String once = Deeds.agreed(0, 1, 0, 2, 3) + "run 0;";
        Doc.says("mark A B: B is HONEST;");
        Deeds.may("to an HONEST one", council, once + "mark 0 1;");
        Deeds.cannot("to a LIAR", council, once + "mark 0 2;");
        Deeds.cannot("of a LIAR to a LIAR", council, once + "mark 2 3;");
        Doc.says("A, HONEST, has a CHECKPOINT above LOW of B: its PLACE and ROOT are the VOTE of A at B;");
        Deeds.cannot("without a CHECKPOINT", council, "mark 0 1;");
        Deeds.cannot("without a CHECKPOINT, B has one", council, once + "mark 1 0;");
        Deeds.may("above LOW of B", council, once + "mark 0 1;");
        Deeds.cannot("just LOW of B", council, once + "mark 2 0;mark 3 0;" + Deeds.doubts(0, 1, 2) + "view 1;mark 0 1;");
        Deeds.may("above LOW of B, just one's own LOW", council, once + "mark 2 0;mark 3 0;mark 0 1;");
        Doc.says("or A is a LIAR, and B has a CHECKPOINT above its LOW: just that is.");
        Deeds.may("a LIAR's", council, once + "mark 2 0;");
        Deeds.cannot("a LIAR's to one without a CHECKPOINT", council, once + "mark 2 1;");
        Deeds.cannot("a LIAR's to one whose CHECKPOINT is LOW", council, once + "mark 2 0;mark 3 0;mark 2 0;");
        Kit.due("just that: it counts with one's own", Deeds.has(council, once + "mark 2 0;mark 3 0;", 0, 2), 1);
        Doc.says("It is another VOTE than there was of A at B.");
        Deeds.cannot("the same", council, once + "mark 0 1;mark 0 1;");
        Deeds.cannot("a LIAR's, the same", council, once + "mark 2 0;mark 2 0;");
        Deeds.may("that of a later CHECKPOINT", council, once + "mark 0 1;" + Deeds.agreed(0, 2, 0, 2, 3) + "run 0;mark 0 1;");
        String still = Deeds.PAIR.replace("order 0 5;", "order 0 0;") + "step 1;";
        Deeds.may("that of a later CHECKPOINT with the same ROOT", still,
            once + "mark 0 1;" + Deeds.agreed(0, 2, 0, 2, 3) + "run 0;mark 0 1;");
        Deeds.may("a LIAR's of a later CHECKPOINT", council,
            once + "mark 2 0;" + Deeds.agreed(0, 2, 0, 2, 3) + "run 0;mark 2 0;");
    }

    private static void cuts() {
        Doc.says("If then, or behind a CHECKPOINT, a QUORUM or more of VOTES at B are alike, and of a PLACE above LOW: "
            + "LOW is that PLACE;");
        String council = Deeds.PAIR + "step 1;";
        String once = Deeds.agreed(0, 1, 0, 2, 3) + "run 0;";
        Kit.due("one VOTE", Deeds.has(council, once, 0, 2), 0);
        Kit.due("two VOTES", Deeds.has(council, once + "mark 2 0;", 0, 2), 0);
        Kit.due("three VOTES", Deeds.has(council, once + "mark 2 0;mark 3 0;", 0, 2), 1);
        String later = once + "mark 2 0;" + Deeds.agreed(0, 2, 0, 2, 3) + "run 0;mark 3 0;";
        Kit.due("three VOTES of unlike PLACES", Deeds.has(council, later, 0, 2), 0);
        Kit.due("three of the later PLACE", Deeds.has(council, later + "mark 2 0;", 0, 2), 2);
        String still = Deeds.PAIR.replace("order 0 5;", "order 0 0;") + "step 1;";
        Kit.due("three VOTES of unlike PLACES and one ROOT", Deeds.has(still, later, 0, 2), 0);
        String split = "propose 1 1 0;prepare 3 1 1;commit 0 1 1;commit 3 1 1;run 1;"
            + "propose 2 1 1;prepare 3 2 1;commit 0 2 1;commit 3 2 1;run 2;mark 2 1;mark 0 1;";
        Kit.due("three VOTES of unlike ROOTS", Deeds.has(Deeds.FALSE_FIRST + "step 1;", split, 1, 2), 0);
        Kit.due("three of one ROOT", Deeds.has(Deeds.FALSE_FIRST + "step 1;", split + "mark 3 1;", 1, 2), 1);
        String others = "propose 0 1 0;propose 1 1 0;propose 2 1 0;propose 3 1 0;";
        String three = others + "prepare 1 0 1;prepare 2 0 1;prepare 2 1 1;prepare 1 2 1;prepare 1 3 1;"
            + "commit 1 0 1;commit 2 0 1;commit 0 1 1;commit 2 1 1;commit 0 3 1;commit 1 3 1;run 0;run 1;mark 0 3;mark 1 3;";
        Kit.due("two of others", Deeds.has(Deeds.TWO + "step 1;", three, 3, 2), 0);
        Kit.due("behind a CHECKPOINT, one's own", Deeds.has(Deeds.TWO + "step 1;", three + "run 3;", 3, 2), 1);
        String told = three + "commit 0 2 1;commit 1 2 1;run 2;mark 2 3;";
        String silent = three.replace("mark 0 3;mark 1 3;", "run 3;");
        ThreePhases x = Kit.with(Deeds.TWO + "step 1;", told);
        Kit.tell(x, 1, NONE, silent);
        Kit.due("three of others", x.state(0, 0, Deeds.count(told), 3, 2), 1);
        Kit.due("in another RUN these do not count", x.state(0, 1, Deeds.count(silent), 3, 2), 0);
        Kit.due("of one alone", Deeds.has(Deeds.ALONE + "step 1;", "propose 0 1 0;run 0;", 0, 2), 1);
        Doc.says("what is ACCEPTED, PROOFS, at PLACES up to there, are no more.");
        String five = "propose 0 1 0;propose 0 2 0;propose 0 3 1;run 0;";
        int[] whats = {100, 101, 102, 103, 104, 105, 106};
        int[] gone = {NONE, 0, 0, 0, 0, NONE, NONE};
        int[] stays = {1, 1, 1, 1, 1, 0, 1};
        for (int k = 0; k < whats.length; k++) {
            Kit.due("at 1, " + k, Deeds.has(Deeds.ALONE, five, 0, whats[k]), gone[k]);
            Kit.due("at LOW, " + k, Deeds.has(Deeds.ALONE, five, 0, 100 + whats[k]), gone[k]);
            Kit.due("above LOW, " + k, Deeds.has(Deeds.ALONE, five, 0, 200 + whats[k]), stays[k]);
        }
        StringBuilder twelve = new StringBuilder();
        for (int s = 1; s <= 12; s++) {
            twelve.append("propose 0 " + s + " 1;run 0;");
        }
        for (int k = 0; k < whats.length; k++) {
            Kit.due("at the last PLACE, " + k, Deeds.has(Deeds.ALONE, twelve.toString(), 0, 1100 + whats[k]), gone[k]);
        }
        Kit.due("what was RUN at LOW stays", Deeds.has(Deeds.ALONE, five, 0, 207), 0);
    }

    private static void fetch() {
        String council = Deeds.PAIR + "step 1;";
        String low = Deeds.far(1);
        String both = low + Deeds.doubts(0, 1, 2) + "view 1;";
        Doc.says("fetch A B: A, HONEST, has RAN below its LOW, B, HONEST, has a CHECKPOINT of just that PLACE:");
        Deeds.may("RAN below LOW", council, both + "fetch 1 0;");
        Deeds.cannot("RAN that is LOW", council, both + "fetch 1 0;fetch 1 0;");
        Deeds.cannot("RAN 0 and LOW 0", council, low + "fetch 1 0;");
        Deeds.cannot("a LIAR", council, both + "fetch 2 0;");
        Deeds.cannot("of a LIAR", council, both + "fetch 1 2;");
        Deeds.cannot("of one without a CHECKPOINT", council, low + "doubt 0;doubt 1;doubt 2;view 1;fetch 0 1;");
        String on = both + "prepare 2 0 1;";
        Deeds.cannot("at a PLACE that is cut", council, on);
        String next = "propose 1 2 0;propose 0 2 0;prepare 2 0 2;commit 2 0 2;commit 3 0 2;run 0;";
        Deeds.may("before a later CHECKPOINT", council, both + next);
        Deeds.cannot("of one whose CHECKPOINT is later", council, both + next + "fetch 1 0;");
        Deeds.cannot("RAN above LOW", Deeds.PAIR + "step 1;", Deeds.agreed(0, 1, 0, 2, 3) + "run 0;fetch 0 1;");
        Doc.says("A asks for SUMS of B's CHECKPOINT, of the ROOT, then of both below each that is unlike its own;");
        Kit.due("one leaf", Deeds.has(council, both + "fetch 1 0;", 1, 5), 7);
        Kit.due("it was not asked before", Deeds.has(council, both, 1, 5), 0);
        Kit.due("B asks for none", Deeds.has(council, both + "fetch 1 0;", 0, 5), 0);
        String twice = Deeds.far(2) + Deeds.doubts(0, 1, 2) + "view 1;fetch 1 0;";
        Kit.due("two leaves side by side", Deeds.has(Deeds.PAIR, twice, 1, 5), 7);
        Kit.due("two leaves far off", Deeds.has(Deeds.PAIR.replace("order 1 7", "order 7 7"), twice, 1, 5), 11);
        String blind = "liar 2;liar 3;account 1 40;order 1 69;order 0 17;";
        Kit.due("a ROOT that is alike by chance", Deeds.has(blind, twice, 1, 5), 1);
        String still = "liar 2;liar 3;step 1;order 3 0;order 3 0;";
        Kit.due("nothing but what is as told", Deeds.has(still, both + "fetch 1 0;", 1, 5), 1);
        Doc.says("of leaves that are unlike it takes what B has.");
        Kit.due("ACCOUNT 0", Deeds.has(Deeds.PAIR, twice, 1, 10), 5);
        Kit.due("ACCOUNT 1", Deeds.has(Deeds.PAIR, twice, 1, 11), 7);
        Kit.due("B by a ROOT alike", Deeds.has(blind, twice, 0, 10), 17);
        Kit.due("A takes nothing by a ROOT alike", Deeds.has(blind, twice, 1, 10), 0);
        Kit.due("A takes nothing by a ROOT alike", Deeds.has(blind, twice, 1, 11), 40);
        fetched();
    }

    private static void fetched() {
        Doc.says("RAN is LOW then, and that (with ACCOUNTS of A) the CHECKPOINT of A.");
        String twice = Deeds.far(2) + Deeds.doubts(0, 1, 2) + "view 1;";
        Kit.due("RAN before", Deeds.has(Deeds.PAIR, twice, 1, 3), 0);
        Kit.due("RAN", Deeds.has(Deeds.PAIR, twice + "fetch 1 0;", 1, 3), 2);
        Kit.due("no CHECKPOINT before", Deeds.has(Deeds.PAIR, twice, 1, 6), NONE);
        Kit.due("CHECKPOINT", Deeds.has(Deeds.PAIR, twice + "fetch 1 0;", 1, 6), 2);
        Kit.due("it did not RUN it itself", Deeds.has(Deeds.PAIR, twice + "fetch 1 0;", 1, 107), NONE);
        // 0 RAN 1 and 2, 2 RAN 1; 1 takes nothing of 0, as their ROOTS are alike, and 2 then has just what 1 has.
        String council = "faults 2;liar 3;liar 4;liar 5;liar 6;account 1 40;order 0 17;order 1 69;";
        StringBuilder run = new StringBuilder();
        for (int s = 1; s <= 2; s++) {
            run.append("propose 0 " + s + " " + (s - 1) + ";");
            for (int liar = 3; liar <= 6; liar++) {
                run.append("prepare " + liar + " 0 " + s + ";commit " + liar + " 0 " + s + ";");
            }
        }
        run.append("propose 2 1 0;prepare 3 2 1;prepare 4 2 1;prepare 5 2 1;");
        run.append("commit 3 2 1;commit 4 2 1;commit 5 2 1;commit 6 2 1;run 2;run 0;mark 3 0;mark 4 0;mark 5 0;mark 6 0;");
        run.append(Deeds.doubts(0, 1, 2, 3, 4)).append("view 1;fetch 1 0;fetch 2 1;");
        Deeds.may("a RUN of 40 DEEDS", council, run.toString());
        Kit.due("of 0, ACCOUNT 0", Deeds.has(council, run.toString(), 0, 10), 17);
        Kit.due("of 0, ACCOUNT 1", Deeds.has(council, run.toString(), 0, 11), 9);
        Kit.due("of 2, ACCOUNT 0: as 1 has it, not 0", Deeds.has(council, run.toString(), 2, 10), 0);
        Kit.due("of 2, ACCOUNT 1: as 1 has it, not 0", Deeds.has(council, run.toString(), 2, 11), 40);
    }

    private static void doubt() {
        Doc.says("doubt M: VIEW of M is one more, 9 at most;");
        for (String council : new String[] {"", "liar 1;"}) {
            Kit.due("one more", Deeds.has(council, "doubt 1;", 1, 0), 1);
            Kit.due("9", Deeds.has(council, "doubt 1;".repeat(9), 1, 0), 9);
            Deeds.cannot("10", council, "doubt 1;".repeat(10));
        }
        Kit.due("of M alone", Deeds.has("", "doubt 1;", 0, 0), 0);
        Kit.due("in a VIEW that it is not ACTIVE in, too", Deeds.has("", "doubt 1;doubt 1;", 1, 0), 2);
        Doc.says("it is not ACTIVE; what it has ACCEPTED is no more (PROOFS stay).");
        String run = Deeds.agreed(0, 1, 1, 2, 3) + "propose 0 4 0;doubt 0;";
        int[] whats = {1, 100, 101, 102, 103, 104, 400, 401, 105, 106};
        int[] due = {0, NONE, 0, 0, 0, 0, NONE, 0, 0, 1};
        for (int k = 0; k < whats.length; k++) {
            Kit.due("state " + whats[k], Deeds.has(Deeds.PAIR, run, 0, whats[k]), due[k]);
        }
    }

    private static void view() {
        Doc.says("view M: M, PRIMARY of its VIEW, is not ACTIVE, that VIEW was not made yet, "
            + "and a QUORUM or more of MEMBERS (M, too) are not ACTIVE in it: it is MADE:");
        Deeds.cannot("a PRIMARY that is ACTIVE, at first", "", "view 0;");
        Deeds.cannot("one that is not PRIMARY", "", Deeds.doubts(0, 1, 2) + "view 0;");
        Deeds.cannot("one that is in another VIEW", "", Deeds.doubts(0, 2, 3) + "view 1;");
        Deeds.cannot("two of four", "", Deeds.doubts(0, 1) + "view 1;");
        Deeds.may("three of four", "", Deeds.doubts(0, 1, 2) + "view 1;");
        Deeds.may("four of four", "", Deeds.doubts(0, 1, 2, 3) + "view 1;");
        Deeds.cannot("three, but one in a later VIEW", "", Deeds.doubts(0, 1, 2, 0) + "view 1;");
        Deeds.may("LIARS are such, too", "liar 2;liar 3;", Deeds.doubts(1, 2, 3) + "view 1;");
        Deeds.may("a LIAR makes one", "liar 1;", Deeds.doubts(0, 1, 2) + "view 1;");
        Deeds.may("one alone", "faults 0;", "doubt 0;view 0;");
        Deeds.cannot("four of seven", "faults 2;", Deeds.doubts(1, 2, 3, 4) + "view 1;");
        Deeds.may("five of seven", "faults 2;", Deeds.doubts(1, 2, 3, 4, 5) + "view 1;");
        Deeds.cannot("twice", "", Deeds.doubts(0, 1, 2) + "view 1;view 1;");
        Kit.due("it was not MADE before", Deeds.made("", Deeds.doubts(0, 1, 2), 1, 0), 0);
        Kit.due("it is MADE", Deeds.made("", Deeds.doubts(0, 1, 2) + "view 1;", 1, 0), 1);
        Kit.due("no other is", Deeds.made("", Deeds.doubts(0, 1, 2) + "view 1;", 2, 0), 0);
    }

    /** LOW is 4, and PLACE 12 is the last of a WINDOW of 9 that there is: VIEW 1 has it. */
    private static String lastPlace() {
        return "propose 0 1 0;propose 0 2 0;propose 0 3 0;propose 0 4 0;run 0;propose 0 12 1;doubt 0;view 0;";
    }

    private static void merging() {
        Doc.says("FROM is the greatest LOW of these,");
        String cut = "step 1;";
        String with = Deeds.far(1) + Deeds.doubts(0, 1, 2) + "view 1;";
        String without = Deeds.far(1) + Deeds.doubts(1, 2, 3) + "view 1;";
        Kit.due("of one with LOW 1", Deeds.made(Deeds.PAIR + cut, with, 1, 1), 1);
        Kit.due("not of one that is not of these", Deeds.made(Deeds.PAIR + cut, without, 1, 1), 0);
        Kit.due("of all at first", Deeds.made("", Deeds.doubts(0, 1, 2) + "view 1;", 1, 1), 0);
        Doc.says("UPTO the greatest PLACE of a PROOF of these, at least FROM;");
        String proofs = Deeds.prepared(0, 1, 0, 2, 3) + Deeds.prepared(0, 3, 1, 2, 3) + "propose 0 4 0;";
        Kit.due("the greatest", Deeds.made(Deeds.PAIR, proofs + Deeds.doubts(0, 1, 2) + "view 1;", 1, 2), 3);
        Kit.due("the last PLACE", Deeds.made(Deeds.ALONE + "window 9;step 4;", lastPlace(), 1, 2), 12);
        Kit.due("the ORDER of the last PLACE", Deeds.made(Deeds.ALONE + "window 9;step 4;", lastPlace(), 1, 22), 1);
        Kit.due("not of one that is not of these", Deeds.made(Deeds.PAIR, proofs + Deeds.doubts(1, 2, 3) + "view 1;", 1, 2), 0);
        Kit.due("no PROOF above FROM", Deeds.made(Deeds.PAIR + cut, with, 1, 2), 1);
        Doc.says("each PLACE above FROM, up to UPTO, has the ORDER of the PROOF of greatest VIEW of these,");
        String unlike = Deeds.prepared(0, 1, 0, 1, 2) + Deeds.doubts(1, 2, 3) + "view 1;propose 3 1 1;prepare 2 3 1;";
        String three = unlike + Deeds.doubts(0, 0, 2, 3) + "view 2;";
        String without3 = unlike + Deeds.doubts(0, 0, 1, 2) + "view 2;";
        Kit.due("VIEW 1 goes ahead of VIEW 0", Deeds.made(Deeds.FALSE_HEADS, three, 2, 11), 1);
        Kit.due("without it, VIEW 0", Deeds.made(Deeds.FALSE_HEADS, without3, 2, 11), 0);
        String turned = Deeds.TURNED + Deeds.doubts(0, 2, 3, 3) + "view 2;";
        Kit.due("VIEW 1 of 0 goes ahead of VIEW 0 of 3", Deeds.made(Deeds.FALSE_HEADS, turned, 2, 11), 1);
        Kit.due("above UPTO there is none", Deeds.made(Deeds.PAIR, proofs + Deeds.doubts(0, 1, 2) + "view 1;", 1, 14), NONE);
        Kit.due("up to FROM there is none", Deeds.made(Deeds.PAIR + cut, with, 1, 11), NONE);
        Doc.says("of several the least ORDER, or NOTHING");
        String end = Deeds.doubts(1, 2, 3) + "view 1;";
        String one = "propose 1 1 0;prepare 3 1 1;propose 2 1 1;prepare 3 2 1;" + end;
        String other = "propose 1 1 1;prepare 3 1 1;propose 2 1 0;prepare 3 2 1;" + end;
        Kit.due("the least of 0 and 1", Deeds.made(Deeds.FALSE_FIRST, one, 1, 11), 0);
        Kit.due("the least of 1 and 0", Deeds.made(Deeds.FALSE_FIRST, other, 1, 11), 0);
        Kit.due("NOTHING in between", Deeds.made(Deeds.PAIR, proofs + Deeds.doubts(0, 1, 2) + "view 1;", 1, 12), 10);
        Kit.due("the ORDER behind it", Deeds.made(Deeds.PAIR, proofs + Deeds.doubts(0, 1, 2) + "view 1;", 1, 13), 1);
        Doc.says("(LIARS tell no PROOFS, LOW 0).");
        String lows = Deeds.agreed(0, 1, 0, 1, 2) + "run 0;mark 1 0;mark 2 0;" + Deeds.doubts(0, 1, 2) + "view 1;";
        Kit.due("LOW of a LIAR", Deeds.has(Deeds.FALSE_HEADS + cut, lows, 2, 2), 1);
        String next = lows + Deeds.doubts(1, 2, 3, 3) + "view 2;";
        Kit.due("which it does not tell", Deeds.made(Deeds.FALSE_HEADS + cut, next, 2, 1), 0);
        Doc.says("All these ENTER it.");
        ThreePhases x = Kit.with("liar 2;", Deeds.doubts(0, 1, 2) + "view 1;");
        int[] active = {1, 1, 1, 1};
        int[] views = {1, 1, 1, 0};
        for (int m = 0; m < 4; m++) {
            Kit.due("ACTIVE, MEMBER " + m, x.state(0, 0, 4, m, 1), active[m]);
            Kit.due("VIEW of MEMBER " + m, x.state(0, 0, 4, m, 0), views[m]);
        }
        x = Kit.with("", Deeds.doubts(0, 1, 2, 3, 3) + "view 1;");
        Kit.due("one in a later VIEW does not", x.state(0, 0, 6, 3, 1), 0);
    }

    private static void enter() {
        Doc.says("enter M: M is not ACTIVE in a VIEW that was MADE: it ENTERS.");
        String made = Deeds.doubts(0, 1, 2) + "view 1;";
        Deeds.may("one that doubts later", "", made + "doubt 3;enter 3;");
        Deeds.cannot("one that is ACTIVE in it", "", made + "enter 0;");
        Deeds.cannot("one that is ACTIVE in VIEW 0", "", made + "enter 3;");
        Deeds.cannot("a VIEW that was not MADE", "", made + "doubt 3;doubt 3;enter 3;");
        Deeds.cannot("before it was MADE", "", "doubt 3;enter 3;");
        Doc.says("Who ENTERS (a LIAR, too) is ACTIVE;");
        Kit.due("HONEST", Deeds.has("", made + "doubt 3;enter 3;", 3, 1), 1);
        Kit.due("a LIAR", Deeds.has("liar 3;", made + "doubt 3;enter 3;", 3, 1), 1);
        Kit.due("a LIAR before", Deeds.has("liar 3;", made + "doubt 3;", 3, 1), 0);
        Doc.says("LOW is FROM, if it was less (PROOFS up to there are no more);");
        String council = Deeds.FALSE_HEADS + "step 1;";
        String low = Deeds.agreed(0, 1, 0, 1, 2) + "propose 3 1 0;prepare 1 3 1;run 0;mark 1 0;mark 2 0;"
            + Deeds.doubts(0, 1, 2) + "view 1;";
        Kit.due("LOW before", Deeds.has(council, low + "doubt 3;", 3, 2), 0);
        Kit.due("the PROOF before", Deeds.has(council, low + "doubt 3;", 3, 106), 0);
        Kit.due("LOW", Deeds.has(council, low + "doubt 3;enter 3;", 3, 2), 1);
        Kit.due("VIEW of the PROOF", Deeds.has(council, low + "doubt 3;enter 3;", 3, 105), NONE);
        Kit.due("ORDER of the PROOF", Deeds.has(council, low + "doubt 3;enter 3;", 3, 106), NONE);
        Kit.due("of a LIAR, too", Deeds.has(council, low, 1, 2), 1);
        String high = "propose 0 1 0;propose 0 2 1;propose 3 1 0;propose 3 2 1;prepare 1 3 1;prepare 1 3 2;"
            + Deeds.agreed(0, 1, 0, 1, 2).substring(14) + "run 0;mark 1 0;mark 2 0;"
            + Deeds.doubts(1, 2, 3) + "view 1;doubt 0;enter 0;";
        Kit.due("FROM", Deeds.made(council, high, 1, 1), 0);
        Kit.due("LOW that was more stays", Deeds.has(council, high, 0, 2), 1);
        Doc.says("at each of these PLACES above LOW, up to LOW and WINDOW, it has ACCEPTED that ORDER, "
            + "PREPARES being the PRIMARY and itself (LIARS accept nothing).");
        Kit.due("not at LOW", Deeds.has(council, high, 0, 100), NONE);
        Kit.due("above LOW", Deeds.has(council, high, 0, 200), 1);
        Kit.due("of one with LOW 0, at 1", Deeds.has(council, high, 3, 100), 0);
        Kit.due("of one with LOW 0, at 2", Deeds.has(council, high, 3, 200), 1);
        Kit.due("above UPTO", Deeds.has(council, high, 3, 300), NONE);
        Kit.due("PREPARES", Deeds.has(council, high, 3, 201), 2 + 8);
        Kit.due("a LIAR", Deeds.has(council, high, 1, 200), NONE);
        Kit.due("PREPARES of a LIAR", Deeds.has(council, high, 1, 201), 0);
        String wide = Deeds.prepared(0, 4, 1, 2, 3) + Deeds.doubts(0, 1, 2) + "view 1;";
        Kit.due("at LOW and WINDOW", Deeds.has(Deeds.PAIR, wide, 1, 400), 1);
        Kit.due("at the last PLACE", Deeds.has(Deeds.ALONE + "window 9;step 4;", lastPlace(), 0, 1200), 1);
        Kit.due("PREPARES of the PRIMARY", Deeds.has(Deeds.PAIR, wide, 1, 401), 2);
        Kit.due("NOTHING ahead of it", Deeds.has(Deeds.PAIR, wide, 0, 300), 10);
        Kit.due("PREPARED at once, of one alone", Deeds.has(Deeds.ALONE, "propose 0 1 1;doubt 0;view 0;", 0, 105), 1);
    }

    private static void cannotBe() {
        Doc.says("A DEED can't be, if there is no such MEMBER, ORDER, or it is not as said.");
        String good = "propose 0 1 0;";
        String[] absent = {"propose 4 1 0;", "prepare 4 0 1;", "prepare 0 4 1;", "commit 4 0 1;", "commit 0 4 1;", "run 4;",
            "mark 4 0;", "mark 0 4;", "fetch 4 0;", "fetch 0 4;", "doubt 4;", "view 4;", "enter 4;", "doubt 6;"};
        for (String deed : absent) {
            Deeds.cannot("no such MEMBER", Deeds.TWO, good + deed);
        }
        String marked = Deeds.agreed(0, 1, 0, 2, 3) + "run 0;";
        Deeds.cannot("a mark to no such MEMBER", Deeds.PAIR + "step 1;", marked + "mark 0 4;");
        Deeds.cannot("a mark to no such MEMBER", Deeds.ALONE + "step 1;", "propose 0 1 0;run 0;mark 0 1;");
        Deeds.may("there is one of seven", Deeds.TWO + "faults 2;", good + "doubt 6;");
        Deeds.cannot("there is none but 0 of one", Deeds.ALONE, good + "doubt 1;");
        Deeds.cannot("no such ORDER", Deeds.TWO, good + "propose 0 2 2;");
        Deeds.cannot("it is not as said", Deeds.TWO, good + "run 0;");
        Doc.says("(Two MEMBERS are unlike.)");
        for (String text : new String[] {"prepare 0 0 1;", "commit 0 0 1;", "mark 0 0;", "fetch 0 0;"}) {
            Kit.due("the FAULT of " + text, Kit.faultOf(1, text) / 1000, 2);
        }
        Doc.says("STOP: the first DEED that can't be, else how many there are.");
        Kit.due("none", Deeds.stopOf(Deeds.TWO, ""), 0);
        Kit.due("the first", Deeds.stopOf(Deeds.TWO, "run 0;doubt 0;"), 0);
        Kit.due("the second", Deeds.stopOf(Deeds.TWO, "doubt 0;run 0;doubt 0;run 0;"), 1);
        Kit.due("the last", Deeds.stopOf(Deeds.TWO, "doubt 0;doubt 0;run 0;"), 2);
        Kit.due("how many there are", Deeds.stopOf(Deeds.TWO, "doubt 0;doubt 0;doubt 1;"), 3);
        Kit.due("40", Deeds.stopOf("faults 2;", Deeds.doubts(0, 1, 2, 3, 4).repeat(8)), 40);
        Doc.says("A STATE is behind the first n DEEDS, n up to STOP.");
        String far = Deeds.far(2) + Deeds.doubts(0, 1, 2) + "view 1;fetch 1 0;";
        backwards(Deeds.PAIR, far);
        backwards(Deeds.PAIR + "step 1;", far);
        backwards(Deeds.ALONE, "propose 0 1 0;propose 0 3 1;run 0;" + "doubt 0;".repeat(9) + "view 0;run 0;");
        ThreePhases x = Kit.with(Deeds.TWO, "doubt 0;doubt 0;run 0;doubt 0;");
        int[] views = {0, 1, 2, -2, -2};
        for (int n = 0; n <= 4; n++) {
            Kit.due("n " + n, x.state(0, 0, n, 0, 0), views[n]);
        }
    }

    /** Asked for in the other direction, of one object, a STATE is what it is of a new one. */
    private static void backwards(String council, String run) {
        int members = Kit.with(council, run).quorum(0, 0) > 1 ? 4 : 1;
        for (int m = 0; m < members; m++) {
            for (int what : new int[] {0, 1, 2, 3, 4, 5, 6, 100, 101, 102, 105, 107, 200, 201, 202, 205, 207, 306}) {
                ThreePhases x = Kit.with(council, run);
                for (int n = Deeds.count(run); n >= 0; n--) {
                    Kit.due("n " + n + " of " + run, x.state(0, 0, n, m, what), Kit.with(council, run).state(0, 0, n, m, what));
                }
            }
        }
        ThreePhases x = Kit.with(council, run);
        for (int n = Deeds.count(run); n >= 0; n--) {
            for (int view = 1; view <= 9; view++) {
                Kit.due("VIEW " + view + ", n " + n, x.made(0, 0, n, view, 0), Kit.with(council, run).made(0, 0, n, view, 0));
            }
        }
    }

    private static void stop() {
        Doc.about("Promise 8");
        Doc.says("STOP.");
        ThreePhases x = Kit.with("", "propose 0 1 0;doubt 0;");
        Kit.tell(x, 0, NONE, Deeds.TWO);
        Kit.tell(x, 1, NONE, "doubt 0;doubt 0;doubt 4;");
        Kit.due("stop(0, 0)", x.stop(0, 0), 0);
        Kit.due("stop(1, 0)", x.stop(1, 0), 2);
        Kit.due("stop(0, 1)", x.stop(0, 1), 2);
        Kit.due("stop(1, 1)", x.stop(1, 1), 2);
        Doc.says("NONE: there is none such (of either).");
        for (int k : new int[] {-1, 2, 3, Integer.MIN_VALUE, Integer.MAX_VALUE}) {
            Kit.due("stop(" + k + ", 0)", x.stop(k, 0), NONE);
            Kit.due("stop(0, " + k + ")", x.stop(0, k), NONE);
        }
    }

    private static void state() {
        Doc.about("Promise 9");
        Doc.says("Of a MEMBER in a STATE, what 0: VIEW, 1: 1 if ACTIVE, else 0, 2: LOW, 3: RAN, 4: ROOT of its ACCOUNTS, "
            + "5: how many SUMS it asked for in all, 6: PLACE of its CHECKPOINT (NONE: none), 10 + a: an ACCOUNT;");
        String run = Deeds.far(2) + Deeds.doubts(0, 1, 2) + "view 1;fetch 1 0;doubt 1;";
        ThreePhases x = Kit.with(Deeds.PAIR + "account 7 99;", run);
        int n = Deeds.count(run);
        int[] due = {2, 0, 2, 2, x.behind(0, 2, 0), 7, 2};
        for (int what = 0; what < 7; what++) {
            Kit.due("state " + what, x.state(0, 0, n, 1, what), due[what]);
        }
        Kit.due("ACTIVE", x.state(0, 0, n, 0, 1), 1);
        Kit.due("no CHECKPOINT", x.state(0, 0, n, 2, 6), NONE);
        int[] accounts = {5, 7, 0, 0, 0, 0, 0, 99};
        for (int a = 0; a < 8; a++) {
            Kit.due("ACCOUNT " + a, x.state(0, 0, n, 1, 10 + a), accounts[a]);
        }
        Doc.says("100 s + k of PLACE s, 1 .. 12, k 0: the ORDER it ACCEPTED (NONE), 1, 2: PREPARES, COMMITS (bits; 0 without), "
            + "3, 4: 1 if PREPARED, COMMITTED, else 0, 5, 6: VIEW, ORDER of its PROOF (NONE), "
            + "7: the ORDER it RUN there itself (NONE).");
        int[][] places = {{100, NONE, 0, 0, 0, 0, NONE, NONE, 1}, {200, NONE, 0, 0, 0, 0, NONE, NONE, 0},
            {300, 0, 13, 13, 1, 1, 0, 0, NONE}, {400, 1, 5, 0, 0, 0, NONE, NONE, NONE},
            {500, NONE, 0, 0, 0, 0, NONE, NONE, NONE}, {1200, NONE, 0, 0, 0, 0, NONE, NONE, NONE}};
        String log = Deeds.far(2) + Deeds.agreed(0, 3, 0, 2, 3) + "propose 0 4 1;prepare 2 0 4;";
        ThreePhases y = Kit.with(Deeds.PAIR, log);
        for (int[] row : places) {
            for (int k = 0; k < 8; k++) {
                Kit.due("state " + (row[0] + k), y.state(0, 0, Deeds.count(log), 0, row[0] + k), row[k + 1]);
            }
        }
        Doc.says("-2: there is no such STATE, MEMBER, or for another what.");
        for (int k : new int[] {-1, 1, 2, Integer.MIN_VALUE, Integer.MAX_VALUE}) {
            Kit.due("COUNCIL " + k, x.state(k, 0, 0, 0, 0), -2);
            Kit.due("RUN " + k, x.state(0, k, 0, 0, 0), -2);
        }
        for (int k : new int[] {-1, n + 1, 41, Integer.MIN_VALUE, Integer.MAX_VALUE}) {
            Kit.due("n " + k, x.state(0, 0, k, 0, 0), -2);
        }
        for (int m : new int[] {-1, 4, 6, 7, Integer.MIN_VALUE, Integer.MAX_VALUE}) {
            Kit.due("MEMBER " + m, x.state(0, 0, n, m, 0), -2);
        }
        int[] others = {-1, 7, 8, 9, 18, 19, 99, 108, 109, 110, 199, 208, 1208, 1299, 1300, 1307, 10000, -100,
            Integer.MIN_VALUE, Integer.MAX_VALUE};
        for (int what : others) {
            Kit.due("what " + what, x.state(0, 0, n, 1, what), -2);
        }
    }

    private static void made() {
        Doc.about("Promise 10");
        Doc.says("Of a VIEW, 1 .. 9, in a STATE, what 0: 1 if it was MADE, else 0, 1: FROM, 2: UPTO, "
            + "10 + s: the ORDER of a PLACE (NONE of these: it was not, or it has none).");
        String cut = Deeds.far(1) + Deeds.prepared(0, 3, 1, 2, 3) + Deeds.doubts(0, 1, 2) + "view 1;";
        ThreePhases x = Kit.with(Deeds.PAIR + "step 1;", cut);
        int n = Deeds.count(cut);
        int[][] due = {{0, 1}, {1, 1}, {2, 3}, {11, NONE}, {12, 10}, {13, 1}, {14, NONE}, {22, NONE}};
        for (int[] pair : due) {
            Kit.due("made " + pair[0], x.made(0, 0, n, 1, pair[0]), pair[1]);
            Kit.due("before it was MADE, " + pair[0], x.made(0, 0, n - 1, 1, pair[0]), pair[0] == 0 ? 0 : NONE);
            Kit.due("of another VIEW, " + pair[0], x.made(0, 0, n, 2, pair[0]), pair[0] == 0 ? 0 : NONE);
        }
        Kit.due("VIEW 9 that was not", x.made(0, 0, n, 9, 0), 0);
        String nine = Deeds.doubts(0, 1, 3).repeat(9) + "view 1;";
        Kit.due("VIEW 9 that was", Deeds.made("", nine, 9, 0), 1);
        Kit.due("VIEW 8 that was not", Deeds.made("", nine, 8, 0), 0);
        Doc.says("-2: there is no such STATE, VIEW, or for another what.");
        for (int k : new int[] {-1, 1, 2, Integer.MIN_VALUE, Integer.MAX_VALUE}) {
            Kit.due("COUNCIL " + k, x.made(k, 0, 0, 1, 0), -2);
            Kit.due("RUN " + k, x.made(0, k, 0, 1, 0), -2);
        }
        for (int k : new int[] {-1, n + 1, Integer.MIN_VALUE, Integer.MAX_VALUE}) {
            Kit.due("n " + k, x.made(0, 0, k, 1, 0), -2);
        }
        for (int view : new int[] {-1, 0, 10, Integer.MIN_VALUE, Integer.MAX_VALUE}) {
            Kit.due("VIEW " + view, x.made(0, 0, n, view, 0), -2);
        }
        for (int what : new int[] {-1, 3, 4, 9, 10, 23, 24, 100, Integer.MIN_VALUE, Integer.MAX_VALUE}) {
            Kit.due("what " + what, x.made(0, 0, n, 1, what), -2);
            Kit.due("what " + what + " of a VIEW that was not", x.made(0, 0, n, 2, what), -2);
        }
    }

    private static void unlike() {
        Doc.about("Promise 11");
        String first = "propose 1 1 0;prepare 3 1 1;commit 0 1 1;commit 3 1 1;run 1;";
        String alike = "propose 2 1 0;prepare 3 2 1;commit 0 2 1;commit 3 2 1;run 2;";
        String second = "propose 2 1 1;prepare 3 2 1;commit 0 2 1;commit 3 2 1;run 2;";
        Doc.says("Behind all DEEDS up to STOP,");
        Kit.due("the DEEDS behind STOP are not done", ends(Deeds.FALSE_FIRST, first + "run 1;" + second, 0), 0);
        Kit.due("nor do they RUN", ends(Deeds.FALSE_FIRST, first + "run 1;" + second, 3), 0);
        Kit.due("all up to STOP are", ends(Deeds.FALSE_FIRST, first + second + "run 1;", 3), 1);
        Doc.says("what 0: PLACES (bit s) at which two HONEST ones RUN unlike ORDERS themselves,");
        Kit.due("none", ends(Deeds.FALSE_FIRST, "", 0), 0);
        Kit.due("one alone", ends(Deeds.FALSE_FIRST, first, 0), 0);
        Kit.due("unlike", ends(Deeds.FALSE_FIRST, first + second, 0), 2);
        Kit.due("alike", ends(Deeds.FALSE_FIRST, first + alike, 0), 0);
        Kit.due("an ORDER and NOTHING", ends("liar 0;liar 3;order 0 5;step 1;window 2;", nothings(), 0), 2);
        Doc.says("1: PLACES that more than FAULTS of HONEST ones RUN so alike,");
        Kit.due("as many as FAULTS", ends(Deeds.FALSE_FIRST, first, 1), 0);
        Kit.due("one more than FAULTS", ends(Deeds.FALSE_FIRST, first + alike, 1), 2);
        Kit.due("two, but unlike", ends(Deeds.FALSE_FIRST, first + second, 1), 0);
        Kit.due("FAULTS 0", ends(Deeds.ALONE, "propose 0 1 0;propose 0 2 0;run 0;", 1), 6);
        StringBuilder twelve = new StringBuilder();
        for (int s = 1; s <= 12; s++) {
            twelve.append("propose 0 " + s + " 0;run 0;");
        }
        Kit.due("up to the last PLACE", ends(Deeds.ALONE, twelve.toString(), 1), 0x1ffe);
        Kit.due("NOTHING, too", ends(Deeds.ALONE, "propose 0 2 1;doubt 0;view 0;run 0;", 1), 6);
        Kit.due("not what was fetched", ends(Deeds.PAIR, Deeds.far(2) + Deeds.doubts(0, 1, 2) + "view 1;fetch 1 0;", 1), 0);
        Doc.says("2: the greatest RAN of HONEST ones, 3: the least (of none: 0).");
        String two = Deeds.far(2);
        Kit.due("the greatest", ends(Deeds.PAIR, two, 2), 2);
        Kit.due("the least", ends(Deeds.PAIR, two, 3), 0);
        Kit.due("the least, LIARS do not count", ends(Deeds.PAIR, two + Deeds.doubts(0, 1, 2) + "view 1;fetch 1 0;", 3), 2);
        Kit.due("the least of one at the last PLACE", ends(Deeds.ALONE, twelve.toString(), 3), 12);
        Kit.due("the greatest at the last PLACE", ends(Deeds.ALONE, twelve.toString(), 2), 12);
        String other = "propose 0 1 0;propose 1 1 0;prepare 2 1 1;commit 2 1 1;commit 3 1 1;run 1;";
        Kit.due("the least is that of 0", ends(Deeds.PAIR, other, 3), 0);
        Kit.due("the greatest is that of 1", ends(Deeds.PAIR, other, 2), 1);
        String liars = "liar 0;liar 1;liar 2;liar 3;";
        Kit.due("the greatest of none", ends(liars, "doubt 0;", 2), 0);
        Kit.due("the least of none", ends(liars, "doubt 0;", 3), 0);
        Doc.says("-2: there is none such (of either), or for another what.");
        ThreePhases x = Kit.with("", "");
        for (int k : new int[] {-1, 1, 2, Integer.MIN_VALUE, Integer.MAX_VALUE}) {
            Kit.due("COUNCIL " + k, x.unlike(k, 0, 0), -2);
            Kit.due("RUN " + k, x.unlike(0, k, 0), -2);
        }
        for (int what : new int[] {-1, 4, 5, 10, Integer.MIN_VALUE, Integer.MAX_VALUE}) {
            Kit.due("what " + what, x.unlike(0, 0, what), -2);
        }
    }

    private static int ends(String council, String run, int what) {
        return Kit.with(council, run).unlike(0, 0, what);
    }

    /** 1 RUNS NOTHING at PLACE 1 in VIEW 1, where 2 RAN an ORDER in VIEW 0. */
    private static String nothings() {
        return "propose 2 1 0;prepare 3 2 1;commit 0 2 1;commit 3 2 1;run 2;"
            + "propose 1 2 0;prepare 3 1 2;" + Deeds.doubts(0, 1, 3) + "view 1;"
            + "prepare 0 1 1;prepare 3 1 1;commit 0 1 1;commit 3 1 1;run 1;";
    }
}
