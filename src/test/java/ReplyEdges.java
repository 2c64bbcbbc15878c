/** What terms 3 and 5 have by REPLIES, and promises 17, 18, 26, 27. */
final class ReplyEdges {
    private static final int NONE = ThreePhases.NONE;
    private static final int[] FAR_OFF = {-1, 1, 2, Integer.MIN_VALUE, Integer.MAX_VALUE};

    private ReplyEdges() {
    }

    static void all() {
        Doc.about("Term 3");
        matches();
        suspectSets();
        Doc.about("Term 5");
        tallies();
        match();
        suspects();
        voices();
        lack();
    }

    private static int match(String council, String replies, int what) {
        return Kit.withReplies(council, replies).match(0, 0, what);
    }

    private static int suspects(String council, String replies, int what) {
        return Kit.withReplies(council, replies).suspects(0, 0, what);
    }

    private static int lack(String council, String replies, int what) {
        return Kit.withReplies(council, replies).lack(0, 0, what);
    }

    private static void matches() {
        Doc.says("MATCH by REPLIES: of each MEMBER its last one counts; as they come, one by one: the first REPLY behind which "
            + "FAULTS and one or more MEMBERS tell one RESULT;");
        Kit.due("the second", match("", "reply 0 0 7;reply 1 0 7;reply 2 0 7;", 0), 1);
        Kit.due("one MEMBER twice", match("", "reply 0 0 7;reply 0 0 7;reply 1 0 7;", 0), 2);
        Kit.due("its last one counts", match("", "reply 0 0 7;reply 0 0 8;reply 1 0 7;reply 2 0 7;", 0), 3);
        Kit.due("its last one, once more the first", match("", "reply 0 0 7;reply 0 0 8;reply 0 0 7;reply 1 0 7;", 0), 3);
        Kit.due("as they come, later ones do not change it", match("", "reply 0 0 7;reply 1 0 7;reply 0 0 8;", 0), 1);
        Kit.due("FAULTS alone", match("", "reply 0 0 7;reply 1 0 8;reply 2 0 9;", 0), NONE);
        Kit.due("FAULTS 0: the first", match("faults 0;", "reply 0 0 7;", 0), 0);
        Kit.due("FAULTS 2: the third", match("faults 2;", "reply 6 0 7;reply 5 0 7;reply 4 0 7;", 0), 2);
        Kit.due("FAULTS 2: two", match("faults 2;", "reply 6 0 7;reply 5 0 7;", 0), NONE);
        Kit.due("the last of twelve", match("", "reply 0 0 1;".repeat(11) + "reply 1 0 1;", 0), 11);
        Kit.due("no REPLIES", match("", "", 0), NONE);
        Doc.says("that RESULT; the greatest VIEW of these.");
        String run = "reply 0 9 7;reply 1 8 5;reply 0 2 5;reply 2 9 5;";
        Kit.due("the RESULT", match("", run, 1), 5);
        Kit.due("RESULT 0", match("", "reply 0 0 0;reply 1 0 0;", 1), 0);
        Kit.due("the VIEW: of those that tell it, by then", match("", run, 2), 8);
        Kit.due("the VIEW of the later one", match("", "reply 0 1 7;reply 1 3 7;", 2), 3);
        Kit.due("the VIEW that was told last, not the greatest", match("", "reply 0 9 7;reply 0 1 7;reply 1 0 7;", 2), 1);
        Kit.due("VIEW 0", match("", "reply 0 0 7;reply 1 0 7;", 2), 0);
    }

    private static void suspectSets() {
        Doc.says("SUSPECTS: sets of MEMBERS, as many as FAULTS at most, such that all others that replied tell one RESULT "
            + "in the end (or none of them replied):");
        Kit.due("nobody replied: every set of one at most", suspects("", "", 0), 5);
        Kit.due("nobody replied, FAULTS 2", suspects("faults 2;", "", 0), 1 + 7 + 21);
        Kit.due("FAULTS 0: none but the empty set", suspects("faults 0;", "reply 0 0 1;", 0), 1);
        Kit.due("all tell one", suspects("", "reply 0 0 1;reply 1 0 1;reply 2 0 1;reply 3 0 1;", 0), 5);
        Kit.due("one against two", suspects("", "reply 0 0 1;reply 1 0 1;reply 2 0 2;", 0), 1);
        Kit.due("one against one", suspects("", "reply 0 0 1;reply 1 0 2;", 0), 2);
        Kit.due("two against two: too many", suspects("", "reply 0 0 1;reply 1 0 1;reply 2 0 2;reply 3 0 2;", 0), 0);
        Kit.due("in the end", suspects("", "reply 0 0 1;reply 1 0 2;reply 1 0 1;", 0), 5);
        Kit.due("two unlike of seven", suspects("faults 2;", "reply 0 0 1;reply 1 0 2;", 0), 2 + 11);
        Kit.due("three unlike of seven", suspects("faults 2;", "reply 0 0 1;reply 1 0 2;reply 2 0 3;", 0), 3);
        Kit.due("four unlike of seven", suspects("faults 2;", "reply 0 0 1;reply 1 0 2;reply 2 0 3;reply 3 0 4;", 0), 0);
        Doc.says("how many; the k-th, rising; those that are in all (bits).");
        ThreePhases x = Kit.withReplies("", "reply 3 0 1;reply 1 0 2;");
        Kit.due("how many", x.suspects(0, 0, 0), 2);
        Kit.due("the first", x.suspects(0, 0, 10), 2);
        Kit.due("the second", x.suspects(0, 0, 11), 8);
        Kit.due("in all", x.suspects(0, 0, 1), 0);
        x = Kit.withReplies("", "reply 3 0 1;reply 1 0 1;reply 2 0 5;");
        Kit.due("in all of one set", x.suspects(0, 0, 1), 4);
        x = Kit.withReplies("faults 2;", "reply 0 0 1;reply 1 0 1;reply 2 0 1;reply 6 0 5;");
        Kit.due("6 and anyone", x.suspects(0, 0, 0), 7);
        Kit.due("6 alone is the first", x.suspects(0, 0, 10), 64);
        Kit.due("6 and 0", x.suspects(0, 0, 11), 65);
        Kit.due("6 and 5 are the last", x.suspects(0, 0, 16), 96);
        Kit.due("6 is in all", x.suspects(0, 0, 1), 64);
    }

    private static void tallies() {
        Doc.says("By REPLIES: VOICES of a RESULT: MEMBERS (bits) whose last one tells it;");
        ThreePhases x = Kit.withReplies("", "reply 0 0 1;reply 3 0 1;reply 0 0 2;reply 3 0 1;reply 4 0 1;");
        Kit.due("of 1", x.voices(0, 0, 1), 8);
        Kit.due("of 2", x.voices(0, 0, 2), 1);
        Kit.due("of 3", x.voices(0, 0, 3), 0);
        Doc.says("LACK: how many MEMBERS more would have to tell the RESULT that most tell, so that it is told by FAULTS and one "
            + "(0: none is wanting; nobody replied: FAULTS and one);");
        Kit.due("nobody replied", lack("", "", 0), 2);
        Kit.due("nobody replied, FAULTS 0", lack("faults 0;", "", 0), 1);
        Kit.due("nobody replied, FAULTS 2", lack("faults 2;", "", 0), 3);
        Kit.due("one", lack("", "reply 0 0 1;", 0), 1);
        Kit.due("two unlike", lack("", "reply 0 0 1;reply 1 0 2;", 0), 1);
        Kit.due("two alike", lack("", "reply 0 0 1;reply 1 0 1;", 0), 0);
        Kit.due("more than are wanted", lack("", "reply 0 0 1;reply 1 0 1;reply 2 0 1;reply 3 0 1;", 0), 0);
        Kit.due("the RESULT that most tell", lack("faults 2;", "reply 0 0 1;reply 1 0 2;reply 2 0 2;", 0), 1);
        Kit.due("one MEMBER twice", lack("", "reply 0 0 1;reply 0 0 1;", 0), 1);
        Kit.due("in the end", lack("", "reply 0 0 1;reply 1 0 1;reply 1 0 2;", 0), 1);
        Doc.says("SPLIT: how many unlike RESULTS there are in the end;");
        Kit.due("nobody replied", lack("", "", 1), 0);
        Kit.due("one", lack("", "reply 0 0 0;reply 1 0 0;", 1), 1);
        Kit.due("two", lack("", "reply 0 0 1;reply 1 0 2;reply 2 0 1;", 1), 2);
        Kit.due("four", lack("", "reply 0 0 1;reply 1 0 2;reply 2 0 0;reply 3 0 99;", 1), 4);
        Kit.due("in the end", lack("", "reply 0 0 1;reply 1 0 2;reply 1 0 1;", 1), 1);
        Doc.says("FICKLE: MEMBERS (bits) that told unlike RESULTS.");
        Kit.due("nobody", lack("", "reply 0 0 1;reply 1 0 2;", 2), 0);
        Kit.due("the same twice", lack("", "reply 0 0 1;reply 0 5 1;", 2), 0);
        Kit.due("unlike", lack("", "reply 0 0 1;reply 3 0 1;reply 3 0 2;reply 0 0 1;", 2), 8);
        ThreePhases y = Kit.withReplies("", "reply 1 0 1;reply 1 0 2;");
        Kit.tell(y, 2, NONE, "reply 0 0 1;reply 1 0 1;");
        Kit.due("by the first text", y.lack(0, 0, 2), 2);
        Kit.due("not by the second", y.lack(0, 1, 2), 0);
        Kit.due("and back", lack("", "reply 2 0 1;reply 2 0 2;reply 2 0 1;reply 2 0 1;", 2), 4);
    }

    private static void match() {
        Doc.about("Promise 17");
        Doc.says("MATCH, what 0: the REPLY (from 0 on), 1: the RESULT, 2: the VIEW.");
        ThreePhases x = Kit.withReplies("", "reply 3 4 99;reply 1 2 98;reply 0 9 99;");
        int[] due = {2, 99, 9};
        for (int what = 0; what < 3; what++) {
            Kit.due("what " + what, x.match(0, 0, what), due[what]);
        }
        Kit.due("from 0 on", match("faults 0;", "reply 0 0 0;", 0), 0);
        Doc.says("NONE: none, there is none such (of either; a MEMBER that is not there: its REPLIES do not count), "
            + "or for another what.");
        for (int what = 0; what < 3; what++) {
            Kit.due("none, " + what, match("", "reply 0 0 7;", what), NONE);
            Kit.due("MEMBERS that are not there, " + what, match("", "reply 0 0 7;reply 4 0 7;reply 5 0 7;", what), NONE);
        }
        Kit.due("the last that is there", match("", "reply 0 0 7;reply 3 0 7;", 0), 1);
        Kit.due("the first that is not", match("", "reply 0 0 7;reply 4 0 7;", 0), NONE);
        Kit.due("its number counts them", match("", "reply 4 0 7;reply 0 0 7;reply 5 0 7;reply 1 0 7;", 0), 3);
        Kit.due("its VIEW does not", match("", "reply 4 9 7;reply 0 1 7;reply 5 9 7;reply 1 0 7;", 2), 1);
        for (int k : FAR_OFF) {
            Kit.due("COUNCIL " + k, x.match(k, 0, 0), NONE);
            Kit.due("REPLIES " + k, x.match(0, k, 0), NONE);
        }
        for (int what : new int[] {-1, 3, 4, Integer.MIN_VALUE, Integer.MAX_VALUE}) {
            Kit.due("what " + what, x.match(0, 0, what), NONE);
        }
    }

    private static void suspects() {
        Doc.about("Promise 18");
        Doc.says("SUSPECTS, what 0: how many, 1: those in all (0: there are none), 10 + k: the k-th.");
        ThreePhases x = Kit.withReplies("", "reply 0 0 1;reply 1 0 1;reply 3 0 2;reply 6 0 3;");
        Kit.due("how many", x.suspects(0, 0, 0), 1);
        Kit.due("in all", x.suspects(0, 0, 1), 8);
        Kit.due("the first", x.suspects(0, 0, 10), 8);
        Kit.due("in all: there are no sets", suspects("", "reply 0 0 1;reply 1 0 2;reply 2 0 3;", 1), 0);
        Kit.due("in all: the empty set is one", suspects("", "", 1), 0);
        Kit.due("the empty set is the first", suspects("", "", 10), 0);
        Kit.due("the last of five", suspects("", "", 14), 8);
        Doc.says("-2: there is none such (of any), or for another what.");
        Kit.due("a sixth of five", suspects("", "", 15), -2);
        Kit.due("a second of one", x.suspects(0, 0, 11), -2);
        Kit.due("a first of none", suspects("", "reply 0 0 1;reply 1 0 2;reply 2 0 3;", 10), -2);
        for (int k : FAR_OFF) {
            Kit.due("COUNCIL " + k, x.suspects(k, 0, 0), -2);
            Kit.due("REPLIES " + k, x.suspects(0, k, 0), -2);
        }
        for (int what : new int[] {-1, 2, 9, Integer.MIN_VALUE, Integer.MAX_VALUE}) {
            Kit.due("what " + what, x.suspects(0, 0, what), -2);
        }
    }

    private static void voices() {
        Doc.about("Promise 26");
        Doc.says("VOICES of a RESULT (bits).");
        ThreePhases x = Kit.withReplies("", "reply 0 0 0;reply 3 0 99;reply 1 0 0;reply 4 0 99;");
        Kit.due("of 0", x.voices(0, 0, 0), 3);
        Kit.due("of 99", x.voices(0, 0, 99), 8);
        Kit.due("of 98, which nobody tells", x.voices(0, 0, 98), 0);
        Doc.says("NONE: there is none such (of either; a RESULT that is none).");
        for (int k : FAR_OFF) {
            Kit.due("COUNCIL " + k, x.voices(k, 0, 0), NONE);
            Kit.due("REPLIES " + k, x.voices(0, k, 0), NONE);
        }
        for (int result : new int[] {-1, -2, 100, 101, Integer.MIN_VALUE, Integer.MAX_VALUE}) {
            Kit.due("RESULT " + result, x.voices(0, 0, result), NONE);
        }
    }

    private static void lack() {
        Doc.about("Promise 27");
        Doc.says("What 0: LACK, 1: SPLIT, 2: FICKLE (bits).");
        ThreePhases x = Kit.withReplies("faults 2;", "reply 6 0 1;reply 6 0 2;reply 5 0 2;reply 4 0 3;");
        int[] due = {1, 2, 64};
        for (int what = 0; what < 3; what++) {
            Kit.due("what " + what, x.lack(0, 0, what), due[what]);
        }
        int[] absent = {2, 0, 0};
        for (int what = 0; what < 3; what++) {
            Kit.due("MEMBERS that are not there, " + what, lack("", "reply 6 0 1;reply 6 0 2;reply 5 0 2;reply 4 0 3;", what),
                absent[what]);
        }
        Doc.says("-2: there is none such (of either), or for another what.");
        for (int k : FAR_OFF) {
            Kit.due("COUNCIL " + k, x.lack(k, 0, 0), -2);
            Kit.due("REPLIES " + k, x.lack(0, k, 0), -2);
        }
        for (int what : new int[] {-1, 3, 4, Integer.MIN_VALUE, Integer.MAX_VALUE}) {
            Kit.due("what " + what, x.lack(0, 0, what), -2);
        }
    }
}
