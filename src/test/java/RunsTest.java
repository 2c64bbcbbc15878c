/** Promises 8 to 11 and 19 to 22, by hand: each DEED, where it may be and where it can't, and the edges. */
public final class RunsTest {
    private static final int NONE = ThreePhases.NONE;
    /** PLACE 1 is COMMITTED at 0, 1, 2, and they RUN it: 16 DEEDS. */
    private static final String FIRST = agreed(1);
    private static final String SECOND = agreed(2);
    private static final String MARKS = "mark 0 3;mark 1 3;mark 2 3;";

    public static void main(String[] args) {
        proposals();
        prepares();
        commits();
        runs();
        marks();
        fetches();
        doubts();
        newViews();
        nothings();
        liarsInViews();
        alone();
        splits();
        sureAndLost();
        ends();
        draws();
        wrongInputs();
        Kit.finish("RunsTest");
    }

    /** A PLACE with ORDER 0 is COMMITTED at 0, 1, 2, and they RUN it. */
    private static String agreed(int place) {
        String words = "propose 0 s 0;propose 1 s 0;propose 2 s 0;"
            + "prepare 1 0 s;prepare 2 0 s;prepare 2 1 s;prepare 1 2 s;"
            + "commit 1 0 s;commit 2 0 s;commit 0 1 s;commit 2 1 s;commit 0 2 s;commit 1 2 s;run 0;run 1;run 2;";
        return words.replace(" s", " " + place);
    }

    private static int stop(String council, String run) {
        return Kit.with(council, run).stop(0, 0);
    }

    private static void proposals() {
        String two = "order 0 1;order 1 1;window 2;";
        Kit.due("a PRIMARY proposes", stop(two, "propose 0 1 0;"), 1);
        Kit.due("up to the WINDOW", stop(two, "propose 0 2 1;"), 1);
        Kit.due("beyond the WINDOW", stop(two, "propose 0 3 0;"), 0);
        Kit.due("no such ORDER", stop(two, "propose 0 1 2;"), 0);
        Kit.due("no such MEMBER", stop(two, "propose 4 1 0;"), 0);
        Kit.due("twice", stop(two, "propose 0 1 0;propose 0 1 0;"), 1);
        Kit.due("what the PRIMARY has not", stop(two, "propose 1 1 0;"), 0);
        Kit.due("unlike the PRIMARY", stop(two, "propose 0 1 0;propose 1 1 1;"), 1);
        Kit.due("like the PRIMARY", stop(two, "propose 0 1 0;propose 1 1 0;"), 2);
        Kit.due("a LIAR takes none", stop(two + "liar 1;", "propose 0 1 0;propose 1 1 0;"), 1);
        Kit.due("a lying PRIMARY tells anything", stop(two + "liar 0;", "propose 1 1 0;propose 2 1 1;"), 2);
        Kit.due("not ACTIVE", stop(two, "doubt 0;propose 0 1 0;"), 1);
        String later = "propose 0 1 0;propose 1 1 0;propose 3 1 0;prepare 1 0 1;prepare 3 0 1;"
            + "doubt 0;doubt 1;doubt 3;view 1;";
        Kit.due("a PRIMARY that has it in a later VIEW", stop(two, later + "propose 2 1 0;"), 9);
        Kit.due("A that has it in a later VIEW", stop(two, "propose 0 1 0;propose 2 1 0;"
            + later.substring(14) + "prepare 3 2 1;"), 10);
        Kit.due("a PRIMARY in another VIEW", stop(two, "propose 0 1 0;doubt 0;propose 1 1 0;"), 2);
        ThreePhases x = Kit.with(two, "propose 0 1 1;propose 1 1 1;");
        Kit.due("ACCEPTED", x.state(0, 0, 2, 1, 100), 1);
        Kit.due("PREPARES", x.state(0, 0, 2, 1, 101), 3);
        Kit.due("PREPARES of the PRIMARY", x.state(0, 0, 2, 0, 101), 1);
        Kit.due("COMMITS", x.state(0, 0, 2, 1, 102), 0);
        Kit.due("not ACCEPTED before", x.state(0, 0, 1, 1, 100), NONE);
    }

    private static void prepares() {
        String start = "propose 0 1 0;propose 1 1 0;";
        Kit.due("prepare", stop("order 0 1;", start + "prepare 1 0 1;"), 3);
        Kit.due("twice", stop("order 0 1;", start + "prepare 1 0 1;prepare 1 0 1;"), 3);
        Kit.due("the PRIMARY is there already", stop("order 0 1;", start + "prepare 0 1 1;"), 2);
        Kit.due("A has not ACCEPTED", stop("order 0 1;", start + "prepare 2 0 1;"), 2);
        Kit.due("B has not ACCEPTED", stop("order 0 1;", start + "prepare 1 2 1;"), 2);
        Kit.due("a LIAR as A", stop("order 0 1;liar 2;", start + "prepare 2 0 1;"), 3);
        Kit.due("a LIAR as B", stop("order 0 1;liar 2;", start + "prepare 0 2 1;"), 2);
        Kit.due("A of another VIEW", stop("order 0 1;", start + "doubt 1;prepare 1 0 1;"), 3);
        Kit.due("unlike ORDERS", stop("order 0 1;order 0 1;liar 0;", "propose 1 1 0;propose 2 1 1;prepare 1 2 1;"), 2);
        Kit.due("A is not there", stop("order 0 1;", start + "prepare 4 0 1;"), 2);
        Kit.due("B is not there", stop("order 0 1;", start + "prepare 0 6 1;"), 2);
        ThreePhases x = Kit.with("order 0 1;", FIRST);
        Kit.due("not PREPARED with two", x.state(0, 0, 4, 0, 103), 0);
        Kit.due("PREPARED with three", x.state(0, 0, 5, 0, 103), 1);
        Kit.due("its PROOF's VIEW", x.state(0, 0, 5, 0, 105), 0);
        Kit.due("its PROOF's ORDER", x.state(0, 0, 5, 0, 106), 0);
        Kit.due("no PROOF before", x.state(0, 0, 4, 0, 105), NONE);
        Kit.due("its own COMMIT", x.state(0, 0, 5, 0, 102), 1);
    }

    private static void commits() {
        Kit.due("all of it", stop("order 0 1;", FIRST), 16);
        String three = "propose 0 1 0;propose 1 1 0;propose 2 1 0;";
        Kit.due("A is not PREPARED", stop("order 0 1;", three + "commit 1 0 1;"), 3);
        Kit.due("B need not be", stop("order 0 1;", three + "prepare 2 1 1;commit 1 0 1;"), 5);
        Kit.due("a LIAR may", stop("order 0 1;liar 3;", three + "commit 3 0 1;"), 4);
        Kit.due("a LIAR, twice", stop("order 0 1;liar 3;", three + "commit 3 0 1;commit 3 0 1;"), 4);
        ThreePhases x = Kit.with("order 0 1;", FIRST);
        Kit.due("not COMMITTED with two", x.state(0, 0, 8, 0, 104), 0);
        Kit.due("COMMITTED with three", x.state(0, 0, 9, 0, 104), 1);
        x = Kit.with("order 0 1;liar 3;liar 2;", "propose 0 1 0;commit 3 0 1;commit 2 0 1;prepare 2 0 1;prepare 3 0 1;");
        Kit.due("COMMITS ahead of PREPARES", x.state(0, 0, 3, 0, 102), 12);
        Kit.due("are not COMMITTED", x.state(0, 0, 4, 0, 104), 0);
        Kit.due("before it is PREPARED", x.state(0, 0, 5, 0, 104), 1);
    }

    private static void runs() {
        Kit.due("nothing COMMITTED", stop("order 0 1;", "run 0;"), 0);
        Kit.due("a LIAR", stop("order 0 1;liar 0;", "run 0;"), 0);
        String far = "faults 0;step 3;account 1 99;order 1 2;order 2 3;order 3 4;";
        ThreePhases x = Kit.with(far, "propose 0 2 1;propose 0 1 0;run 0;propose 0 4 2;run 0;propose 0 3 2;run 0;run 0;");
        Kit.due("STOP", x.stop(0, 0), 4);
        Kit.due("on, as long as it goes", x.state(0, 0, 3, 0, 3), 2);
        Kit.due("remainder by 100", x.state(0, 0, 3, 0, 11), 1);
        Kit.due("the second", x.state(0, 0, 3, 0, 12), 3);
        Kit.due("what was RUN", x.state(0, 0, 3, 0, 207), 1);
        Kit.due("no CHECKPOINT yet", x.state(0, 0, 3, 0, 6), NONE);
        x = Kit.with(far, "propose 0 2 1;propose 0 1 0;propose 0 4 2;propose 0 3 2;run 0;");
        Kit.due("RAN 4", x.state(0, 0, 5, 0, 3), 4);
        Kit.due("CHECKPOINT 3", x.state(0, 0, 5, 0, 6), 3);
        Kit.due("LOW 3, of one's own VOTE alone", x.state(0, 0, 5, 0, 2), 3);
        Kit.due("PROOF of 3 is no more", x.state(0, 0, 5, 0, 305), NONE);
        Kit.due("PROOF of 4 stays", x.state(0, 0, 5, 0, 405), 0);
        Kit.due("ACCEPTED at 4 stays", x.state(0, 0, 5, 0, 400), 2);
        Kit.due("ROOT", x.state(0, 0, 0, 0, 4), x.tree(0, 1));
    }

    private static void marks() {
        String one = "step 1;order 2 7;";
        Kit.due("no CHECKPOINT", stop(one, "mark 0 1;"), 0);
        Kit.due("a CHECKPOINT, and the same VOTE again", stop(one, FIRST + "mark 0 3;mark 0 3;"), 17);
        Kit.due("to a LIAR", stop(one + "liar 3;", FIRST + "mark 0 3;"), 16);
        Kit.due("a LIAR's", stop(one + "liar 3;", FIRST + "mark 3 0;mark 3 0;"), 17);
        ThreePhases x = Kit.with(one, FIRST + MARKS + "mark 0 3;");
        Kit.due("not above LOW", x.stop(0, 0), 19);
        Kit.due("LOW with two", x.state(0, 0, 18, 3, 2), 0);
        Kit.due("LOW with three", x.state(0, 0, 19, 3, 2), 1);
        Kit.due("BEHIND", x.after(0, 0, 0), 8);
        x = Kit.with(one + "liar 3;", FIRST + "mark 3 0;mark 1 0;");
        Kit.due("a LIAR's VOTE counts", x.state(0, 0, 18, 0, 2), 1);
        Kit.due("ACCEPTED is no more", x.state(0, 0, 18, 0, 100), NONE);
        Kit.due("PREPARES are no more", x.state(0, 0, 18, 0, 101), 0);
        Kit.due("the PROOF is no more", x.state(0, 0, 18, 0, 106), NONE);
        Kit.due("what it RUN stays", x.state(0, 0, 18, 0, 107), 0);
    }

    private static void fetches() {
        String one = "step 1;order 2 7;account 3 3;";
        Kit.due("nothing to fetch", stop(one, FIRST + "fetch 3 0;"), 16);
        Kit.due("of one without CHECKPOINT", stop(one, FIRST + MARKS + "fetch 3 0;fetch 3 0;"), 20);
        ThreePhases x = Kit.with(one, FIRST + MARKS + "fetch 3 1;");
        Kit.due("RAN", x.state(0, 0, 20, 3, 3), 1);
        Kit.due("what was taken", x.state(0, 0, 20, 3, 12), 7);
        Kit.due("what was alike", x.state(0, 0, 20, 3, 13), 3);
        Kit.due("SUMS", x.state(0, 0, 20, 3, 5), 7);
        Kit.due("CHECKPOINT", x.state(0, 0, 20, 3, 6), 1);
        Kit.due("it did not RUN it itself", x.state(0, 0, 20, 3, 107), NONE);
        Kit.due("ROOTS", x.state(0, 0, 20, 3, 4), x.state(0, 0, 20, 0, 4));
        Kit.due("from a LIAR", stop(one + "liar 0;", "fetch 1 0;"), 0);
        // Its CHECKPOINT by fetch() is one that it can send.
        String sent = FIRST + MARKS + "fetch 3 1;mark 3 0;mark 1 0;mark 3 1;";
        Kit.due("mark by what was fetched", stop(one, sent), 23);
        Kit.due("a CHECKPOINT that is LOW", stop(one, sent + "mark 2 0;"), 23);
        Kit.due("PLACE 2", stop(one, FIRST + MARKS + SECOND), 35);
        Kit.due("a later CHECKPOINT than LOW", stop(one, FIRST + MARKS + SECOND + "fetch 3 0;"), 35);
        x = Kit.with(one, FIRST + MARKS + "fetch 3 0;" + SECOND + MARKS + "fetch 3 2;");
        Kit.due("two fetched", x.stop(0, 0), 40);
        Kit.due("SUMS in all", x.state(0, 0, 40, 3, 5), 14);
        Kit.due("ACCOUNT", x.state(0, 0, 40, 3, 12), 14);
    }

    private static void doubts() {
        StringBuilder text = new StringBuilder();
        for (int k = 0; k < 10; k++) {
            text.append("doubt 2;");
        }
        ThreePhases x = Kit.with("liar 2;", text.toString());
        Kit.due("nine doubts at most", x.stop(0, 0), 9);
        Kit.due("VIEW", x.state(0, 0, 9, 2, 0), 9);
        Kit.due("ACTIVE at first", x.state(0, 0, 0, 2, 1), 1);
        Kit.due("not ACTIVE", x.state(0, 0, 1, 2, 1), 0);
        x = Kit.with("order 0 1;", FIRST + "doubt 0;");
        Kit.due("ACCEPTED is no more", x.state(0, 0, 17, 0, 100), NONE);
        Kit.due("COMMITS are no more", x.state(0, 0, 17, 0, 102), 0);
        Kit.due("the PROOF stays", x.state(0, 0, 17, 0, 106), 0);
        Kit.due("STUCK", x.after(0, 0, 1), 1);
    }

    private static void newViews() {
        String all = "doubt 0;doubt 1;doubt 2;";
        Kit.due("too few", stop("", "doubt 0;doubt 1;view 1;"), 2);
        Kit.due("not the PRIMARY", stop("", all + "view 0;"), 3);
        Kit.due("made", stop("", all + "view 1;"), 4);
        Kit.due("not twice", stop("", all + "view 1;view 1;"), 4);
        Kit.due("without M", stop("", "doubt 0;doubt 3;doubt 2;view 1;"), 3);
        Kit.due("enter what was made", stop("", all + "view 1;doubt 3;enter 3;"), 6);
        Kit.due("enter what was not", stop("", "doubt 3;enter 3;"), 1);
        Kit.due("enter what one is in", stop("", all + "view 1;enter 1;"), 4);
        String once = "order 0 1;order 0 2;window 2;";
        ThreePhases x = Kit.with(once, FIRST + all + "view 1;doubt 3;enter 3;prepare 2 3 1;");
        Kit.due("STOP", x.stop(0, 0), 23);
        Kit.due("MADE before", x.made(0, 0, 19, 1, 0), 0);
        Kit.due("FROM before", x.made(0, 0, 19, 1, 1), NONE);
        Kit.due("ORDER before", x.made(0, 0, 19, 1, 11), NONE);
        Kit.due("MADE", x.made(0, 0, 20, 1, 0), 1);
        Kit.due("FROM", x.made(0, 0, 20, 1, 1), 0);
        Kit.due("UPTO", x.made(0, 0, 20, 1, 2), 1);
        Kit.due("its ORDER", x.made(0, 0, 20, 1, 11), 0);
        Kit.due("no ORDER above", x.made(0, 0, 20, 1, 12), NONE);
        Kit.due("VIEWS", x.after(0, 0, 2), 2);
        Kit.due("ACTIVE", x.state(0, 0, 20, 2, 1), 1);
        Kit.due("PREPARES being the PRIMARY and itself", x.state(0, 0, 20, 2, 101), 6);
        Kit.due("of the PRIMARY itself", x.state(0, 0, 20, 1, 101), 2);
        Kit.due("who enters later", x.state(0, 0, 22, 3, 101), 10);
        Kit.due("the PROOF by this VIEW", x.state(0, 0, 23, 3, 105), 1);
        Kit.due("the older PROOF", x.state(0, 0, 23, 2, 105), 0);
        Kit.due("a new PRIMARY proposes", stop(once, FIRST + all + "view 1;propose 1 2 1;propose 2 2 1;propose 0 1 0;"), 22);
        // LOW is FROM for all that enter.
        x = Kit.with("step 1;" + once, FIRST + "mark 0 1;mark 2 1;doubt 1;doubt 2;doubt 3;view 1;");
        Kit.due("FROM is the greatest LOW", x.made(0, 0, 22, 1, 1), 1);
        Kit.due("UPTO is FROM at least", x.made(0, 0, 22, 1, 2), 1);
        Kit.due("LOW of 3", x.state(0, 0, 22, 3, 2), 1);
        Kit.due("the PROOF of 2 is no more", x.state(0, 0, 22, 2, 105), NONE);
        Kit.due("3 is BEHIND", x.after(0, 0, 0), 8);
    }

    private static void nothings() {
        // A PROOF at 2 alone: PLACE 1 is NOTHING, and it is run as such.
        String two = "propose 0 2 0;propose 1 2 0;propose 2 2 0;prepare 2 1 2;doubt 0;doubt 1;doubt 2;view 1;";
        String on = two + "prepare 0 1 1;prepare 2 1 1;prepare 1 0 1;prepare 2 0 1;prepare 0 2 1;prepare 1 2 1;";
        Kit.due("the PRIMARY is one of PREPARES already", stop("order 0 5;", on), 10);
        on = two + "prepare 0 1 1;prepare 2 1 1;prepare 2 0 1;prepare 0 2 1;commit 0 1 1;commit 2 1 1;run 1;";
        ThreePhases x = Kit.with("order 0 5;step 1;", on);
        Kit.due("STOP", x.stop(0, 0), 15);
        Kit.due("NOTHING at 1", x.made(0, 0, 8, 1, 11), 10);
        Kit.due("0 at 2", x.made(0, 0, 8, 1, 12), 0);
        Kit.due("ACCEPTED NOTHING", x.state(0, 0, 8, 0, 100), 10);
        Kit.due("its PROOF", x.state(0, 0, 11, 0, 106), 10);
        Kit.due("RUN", x.state(0, 0, 15, 1, 107), 10);
        Kit.due("which changes nothing", x.state(0, 0, 15, 1, 10), 0);
        Kit.due("LOST while 0 and 2 have no PROOF", x.sure(0, 0, 8, 2, true), 1);
        Kit.due("SURE of NOTHING is NOTHING", x.sure(0, 0, 12, 1, false), 10);
        // With FAULTS 0 what one has by a VIEW is PREPARED as it enters.
        x = Kit.with("faults 0;step 2;window 2;order 0 5;", "propose 0 2 0;doubt 0;view 0;");
        Kit.due("one alone makes a VIEW", x.stop(0, 0), 3);
        Kit.due("NOTHING is PREPARED at once", x.state(0, 0, 3, 0, 106), 10);
        Kit.due("SURE of NOTHING", x.sure(0, 0, 3, 1, false), 10);
        Kit.due("LOST of NOTHING", x.sure(0, 0, 3, 1, true), 1);
    }

    private static void liarsInViews() {
        ThreePhases x = Kit.with("liar 1;step 1;order 0 1;", "propose 0 1 0;propose 2 1 0;propose 3 1 0;"
            + "prepare 2 0 1;prepare 3 0 1;commit 1 0 1;prepare 3 2 1;commit 2 0 1;run 0;prepare 2 3 1;"
            + "commit 0 3 1;commit 2 3 1;run 3;mark 3 0;mark 1 0;doubt 0;doubt 1;doubt 2;view 1;");
        Kit.due("a LIAR makes a VIEW", x.stop(0, 0), 19);
        Kit.due("FROM", x.made(0, 0, 19, 1, 1), 1);
        Kit.due("a LIAR is ACTIVE", x.state(0, 0, 19, 1, 1), 1);
        Kit.due("LOW of a LIAR", x.state(0, 0, 19, 1, 2), 1);
        Kit.due("a LIAR tells LOW 0", x.merged(0, 0, 19, 2, 0), 0);
        Kit.due("a LIAR tells no PROOF", x.merged(0, 0, 19, 2, 1), 0);
        Kit.due("a LIAR accepts nothing", x.state(0, 0, 19, 1, 200), NONE);
    }

    private static void alone() {
        StringBuilder text = new StringBuilder();
        for (int s = 1; s <= 12; s++) {
            text.append("propose 0 " + s + " 0;run 0;");
        }
        ThreePhases x = Kit.with("faults 0;step 1;window 1;order 0 9;", text.toString());
        Kit.due("STOP", x.stop(0, 0), 24);
        Kit.due("LOW 12", x.state(0, 0, 24, 0, 2), 12);
        Kit.due("ACCOUNT", x.state(0, 0, 24, 0, 10), 8);
        Kit.due("FULL: no PLACE is left", x.after(0, 0, 5), 1);
        Kit.due("not FULL", Kit.with("faults 0;", "").after(0, 0, 5), 0);
        Kit.due("greatest RAN", x.unlike(0, 0, 2), 12);
        Kit.due("RUN alike", x.unlike(0, 0, 1), 0x1ffe);
        Kit.due("no set counts", x.sure(0, 0, 24, 12, false), NONE);
        Kit.due("no set counts", x.sure(0, 0, 24, 12, true), 0);
        Kit.due("a RUN of others", stop("faults 0;order 0 1;", "propose 1 1 0;"), 0);
    }

    /** Two LIARS of four: 2 and 3 RUN unlike ORDERS. */
    private static void splits() {
        String run = "propose 2 1 0;propose 3 1 1;prepare 1 2 1;prepare 1 3 1;commit 0 2 1;commit 1 2 1;"
            + "commit 0 3 1;commit 1 3 1;run 2;run 3;";
        ThreePhases x = Kit.with("liar 0;liar 1;order 1 1;order 2 2;step 1;", run);
        Kit.due("STOP", x.stop(0, 0), 10);
        Kit.due("unlike ORDERS", x.unlike(0, 0, 0), 2);
        Kit.due("alike", x.unlike(0, 0, 1), 0);
        Kit.due("the least RAN", x.unlike(0, 0, 3), 1);
        Kit.due("CERTAIN", x.after(0, 0, 3), 0);
        Kit.due("WORDS", x.after(0, 0, 4), 12);
        Kit.due("of several the least ORDER", x.merged(0, 0, 10, 15, 11), 0);
        Kit.due("of one", x.merged(0, 0, 10, 8, 11), 1);
        x = Kit.with("liar 0;liar 1;liar 2;liar 3;", "");
        Kit.due("of no HONEST ones, greatest", x.unlike(0, 0, 2), 0);
        Kit.due("of no HONEST ones, least", x.unlike(0, 0, 3), 0);
        Kit.due("of no HONEST ones, SURE", x.sure(0, 0, 0, 1, false), NONE);
        Kit.due("of no HONEST ones, LOST", x.sure(0, 0, 0, 1, true), 0);
    }

    private static void sureAndLost() {
        ThreePhases x = Kit.with("order 0 1;", FIRST);
        Kit.due("no PROOF: none", x.sure(0, 0, 4, 1, false), NONE);
        Kit.due("no PROOF: LOST by all", x.sure(0, 0, 4, 1, true), 4);
        Kit.due("one PROOF: LOST by one set", x.sure(0, 0, 5, 1, true), 1);
        Kit.due("one PROOF: not SURE", x.sure(0, 0, 5, 1, false), NONE);
        Kit.due("two PROOFS: SURE", x.sure(0, 0, 6, 1, false), 0);
        Kit.due("two PROOFS: not LOST", x.sure(0, 0, 6, 1, true), 0);
        Kit.due("PLACE 0", x.sure(0, 0, 6, 0, false), -2);
        Kit.due("PLACE 13", x.sure(0, 0, 6, 13, true), -2);
        Kit.due("no STATE", x.sure(0, 0, 17, 1, false), -2);
    }

    private static void ends() {
        ThreePhases x = Kit.with("order 0 1;window 1;", FIRST);
        Kit.due("WORDS", x.after(0, 0, 4), 18);
        Kit.due("CERTAIN", x.after(0, 0, 3), 2);
        Kit.due("FULL", x.after(0, 0, 5), 7);
        Kit.due("after 6", x.after(0, 0, 6), -2);
        Kit.due("after -1", x.after(0, 0, -1), -2);
        x = Kit.with("order 0 1;window 1;", FIRST + "run 0;doubt 1;");
        Kit.due("only up to STOP", x.after(0, 0, 1), 0);
    }

    private static void draws() {
        ThreePhases x = Kit.with("faults 0;order 0 1;");
        Kit.due("n 0", x.drawn(0, 5, 0, 0, 3), 0);
        Kit.due("n -1", x.drawn(0, 5, -1, 0, 3), -2);
        Kit.due("n 201", x.drawn(0, 5, 201, 0, 3), -2);
        Kit.due("no such COUNCIL", x.drawn(1, 5, 1, 0, 3), -2);
        Kit.due("no such MEMBER", x.drawn(0, 5, 1, 1, 3), -2);
        Kit.due("no such what", x.drawn(0, 5, 1, 0, 7), -2);
        Kit.due("n 200", x.drawn(0, 5, 200, 0, 0) >= 0, true);
    }

    private static void wrongInputs() {
        ThreePhases x = Kit.with("order 0 1;", FIRST);
        Kit.due("stop of none", x.stop(1, 0), NONE);
        Kit.due("stop of none", x.stop(0, 1), NONE);
        Kit.due("stop of none", x.stop(-1, -1), NONE);
        int[] none = {-1, 7, 8, 9, 18, 99, 108, 199, 1300, 1208, Integer.MIN_VALUE, Integer.MAX_VALUE};
        for (int what : none) {
            Kit.due("state " + what, x.state(0, 0, 3, 0, what), -2);
            Kit.due("drawn " + what, x.drawn(0, 1, 3, 0, what), -2);
        }
        Kit.due("state 1207", x.state(0, 0, 3, 0, 1207), NONE);
        Kit.due("state of MEMBER 4", x.state(0, 0, 3, 4, 0), -2);
        Kit.due("state of MEMBER -1", x.state(0, 0, 3, -1, 0), -2);
        Kit.due("state 17", x.state(0, 0, 17, 0, 0), -2);
        Kit.due("state -1", x.state(0, 0, -1, 0, 0), -2);
        Kit.due("state of none", x.state(1, 0, 0, 0, 0), -2);
        Kit.due("state of none", x.state(0, 1, 0, 0, 0), -2);
        for (int what : new int[] {-1, 3, 9, 10, 23, Integer.MIN_VALUE}) {
            Kit.due("made " + what, x.made(0, 0, 3, 1, what), -2);
        }
        Kit.due("made of VIEW 0", x.made(0, 0, 3, 0, 0), -2);
        Kit.due("made of VIEW 10", x.made(0, 0, 3, 10, 0), -2);
        Kit.due("made of VIEW 9", x.made(0, 0, 3, 9, 0), 0);
        Kit.due("made of no STATE", x.made(0, 0, 17, 1, 0), -2);
        Kit.due("unlike 4", x.unlike(0, 0, 4), -2);
        Kit.due("unlike of none", x.unlike(0, 1, 0), -2);
        Kit.due("unlike of none", x.unlike(1, 0, 0), -2);
        Kit.due("after of none", x.after(1, 0, 0), -2);
        for (int what : new int[] {-1, 2, 9, 10, 23}) {
            Kit.due("merged " + what, x.merged(0, 0, 3, 15, what), -2);
        }
        Kit.due("merged of no MEMBERS", x.merged(0, 0, 3, 0, 0), -2);
        Kit.due("merged of MEMBER 4", x.merged(0, 0, 3, 16, 0), -2);
        Kit.due("merged of MEMBER 4, too", x.merged(0, 0, 3, 17, 0), -2);
        Kit.due("merged of bits below 0", x.merged(0, 0, 3, -1, 0), -2);
        Kit.due("merged of no STATE", x.merged(0, 0, 17, 1, 0), -2);
        Kit.due("no ORDER", x.merged(0, 0, 3, 15, 22), NONE);
    }
}
