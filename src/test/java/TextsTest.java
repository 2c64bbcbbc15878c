/** Promises 1 to 7, 16, 28 to 30: the tape, texts, FAULTS, what is told, images. */
public final class TextsTest {
    private static final int NONE = ThreePhases.NONE;

    public static void main(String[] args) {
        fresh();
        tape();
        slots();
        firstFaults();
        numberFaults();
        fullTexts();
        absentMembers();
        councils();
        deeds();
        replies();
        images();
        tapeInImages();
        Kit.finish("TextsTest");
    }

    private static void fresh() {
        ThreePhases x = new ThreePhases();
        for (int sort = 0; sort < 3; sort++) {
            Kit.due("count of a new object", x.count(sort), 0);
        }
        Kit.due("count(-1)", x.count(-1), -2);
        Kit.due("count(3)", x.count(3), -2);
        Kit.due("fault(0)", x.fault(0), 0);
        Kit.due("fault(1)", x.fault(1), NONE);
        Kit.due("fault(2)", x.fault(2), NONE);
        Kit.due("again(0)", x.again(0), false);
        Kit.due("end(0)", x.end(0), 0);
        Kit.due("end(1)", x.end(1), NONE);
        Kit.due("council(0, 0)", x.council(0, 0), NONE);
        Kit.due("deed(0, -1, 0)", x.deed(0, NONE, 0), -2);
        Kit.due("reply(0, -1, 0)", x.reply(0, NONE, 0), -2);
    }

    private static void tape() {
        ThreePhases x = new ThreePhases();
        for (int k = 1; k <= 30; k++) {
            Kit.due("feed " + k, x.feed(0, 0, 0, 0, 0), 20 * k);
        }
        Kit.due("feed beyond 600", x.feed(0, 0, 0, 0, 0), NONE);
        Kit.due("end(601)", x.end(601), NONE);
        Kit.due("end(-1)", x.end(-1), NONE);
        Kit.due("end(581)", x.end(581), 581);
        Kit.due("feed beyond 600 from 581", x.feed(0, 0, 0, 0, 0), NONE);
        Kit.due("end(582) behind that", x.end(582), NONE);
        Kit.due("end(580)", x.end(580), 580);
        Kit.due("feed to just 600", x.feed(0, 0, 0, 0, 0), 600);
        Kit.due("end(0)", x.end(0), 0);
        // Bytes come highest first: "step 3;" in two numbers.
        x.feed(0x73746570, 0x20333b20, 0x20202020, 0x20202020, 0x20200a0a);
        Kit.due("text of bytes", x.text(0, NONE), 0);
        Kit.due("step", x.council(0, 2), 3);
        Kit.due("the tape is empty behind a text", x.end(1), NONE);
    }

    /** Tells a text where there is no room for it: -2, no FAULT, and the tape is taken all the same. */
    private static void notRead(ThreePhases x, int sort, int at, String text) {
        String call = "text(" + sort + ", " + at + ")";
        Kit.due(call, Kit.tell(x, sort, at, text), -2);
        Kit.due(call + ": fault(0)", x.fault(0), 0);
        Kit.due(call + ": fault(1)", x.fault(1), NONE);
        Kit.due(call + ": the tape is empty", x.end(1), NONE);
        Kit.due(call + ": feed", x.feed(0, 0, 0, 0, 0), 20);
        Kit.due(call + ": end", x.end(0), 0);
    }

    private static void slots() {
        ThreePhases x = new ThreePhases();
        notRead(x, 0, 0, "step 3;");
        notRead(x, -1, NONE, "step 3;");
        notRead(x, 3, NONE, "step 3;");
        notRead(x, 0, -2, "step 3;");
        notRead(x, 1, 0, "no text");
        notRead(x, 2, 1, "");
        Kit.due("no COUNCIL of all these", x.count(0), 0);
        Kit.due("text", Kit.tell(x, 0, NONE, "step 3;"), 0);
        Kit.due("an empty text", x.text(0, NONE), 1);
        notRead(x, 0, NONE, "step 9;");
        notRead(x, 0, 2, "step 9;");
        Kit.due("no third", x.count(0), 2);
        Kit.due("in place of the second", Kit.tell(x, 0, 1, "step 9;"), NONE);
        Kit.due("its FAULT", x.fault(0), 2);
        Kit.due("a text with a FAULT is taken", x.end(1), NONE);
        Kit.due("the second stays", x.council(1, 2), 2);
        Kit.due("the first stays", x.council(0, 2), 3);
        notRead(x, 7, 7, "step 1;");
        Kit.due("in place of the second", Kit.tell(x, 0, 1, "window 9;"), 1);
        Kit.due("its window", x.council(1, 1), 9);
        Kit.due("count(0)", x.count(0), 2);
        Kit.due("a run", Kit.tell(x, 1, NONE, ""), 0);
        Kit.due("replies", Kit.tell(x, 2, NONE, "\n "), 0);
        Kit.due("count(1)", x.count(1), 1);
        Kit.due("count(2)", x.count(2), 1);
    }

    /** An image has the tape as it was, also where a text that was not read took it since. */
    private static void tapeInImages() {
        ThreePhases x = new ThreePhases();
        Kit.feed(x, "step 3;");
        x.image(0);
        Kit.due("no such place", x.text(0, 0), -2);
        x.image(1);
        Kit.due("again(0)", x.again(0), true);
        Kit.due("the tape as it was", x.end(7), 7);
        Kit.due("it is a text", x.text(0, NONE), 0);
        Kit.due("its step", x.council(0, 2), 3);
        Kit.due("again(1)", x.again(1), true);
        Kit.due("the tape that was taken", x.end(1), NONE);
        Kit.due("an image without a COUNCIL", x.count(0), 0);
    }

    private static void firstFaults() {
        Kit.due("no such word", Kit.faultOf(0, " members 4;"), 1001);
        Kit.due("a word of another sort", Kit.faultOf(0, "step 1; reply 0 0 0;"), 1008);
        Kit.due("a longer word", Kit.faultOf(0, "steps 1;"), 1000);
        Kit.due("a shorter word", Kit.faultOf(0, "ste 1;"), 1000);
        Kit.due("no NUMBER", Kit.faultOf(0, "step ;"), 1005);
        Kit.due("a NUMBER too many", Kit.faultOf(0, "step 1 2;"), 1007);
        Kit.due("the end in a line", Kit.faultOf(0, "step 1"), 1006);
        Kit.due("the end behind blanks", Kit.faultOf(0, "step 1  "), 1008);
        Kit.due("three digits", Kit.faultOf(0, "step 001;"), 1005);
        Kit.due("two digits", Kit.faultOf(0, "step 01;"), 0);
        Kit.due("no blanks", Kit.faultOf(0, "step1;liar0;"), 0);
        Kit.due("a capital", Kit.faultOf(0, "Step 1;"), 1000);
        Kit.due("a capital behind letters", Kit.faultOf(0, "stEp 1;"), 1000);
        Kit.due("an odd byte behind a word", Kit.faultOf(0, "step\t1;"), 1004);
        Kit.due("a byte above 127", Kit.faultOf(0, "step 1\u00e9;"), 1006);
        Kit.due("a semicolon alone", Kit.faultOf(0, ";"), 1000);
        Kit.due("a NUMBER alone", Kit.faultOf(1, "1;"), 1000);
        Kit.due("FAULT 1 goes ahead of an earlier 2", Kit.faultOf(0, "step 9; step"), 1012);
        Kit.due("FAULT 1 goes ahead of an earlier 3", Kit.faultOf(1, "run 0;".repeat(41) + "x"), 1246);
        Kit.due("FAULT 1 goes ahead of 4", Kit.faultOf(0, "liar 6;!"), 1007);
    }

    private static void numberFaults() {
        String[] good = {"faults 0;", "faults 2;", "window 1;", "window 9;", "step 1;", "step 4;", "liar 0;",
            "faults 2; liar 6;", "account 0 0;", "account 7 99;", "order 7 99;", "delay 0 1 1;", "delay 3 2 9;"};
        for (String text : good) {
            Kit.due(text, Kit.faultOf(0, text), 0);
        }
        Kit.due("faults 3", Kit.faultOf(0, "faults 3;"), 2007);
        Kit.due("window 0", Kit.faultOf(0, "window 0;"), 2007);
        Kit.due("window 10", Kit.faultOf(0, "window 10;"), 2007);
        Kit.due("step 0", Kit.faultOf(0, "step 0;"), 2005);
        Kit.due("step 5", Kit.faultOf(0, "step 5;"), 2005);
        Kit.due("liar 7", Kit.faultOf(0, "liar 7;"), 2005);
        Kit.due("account 8", Kit.faultOf(0, "account 8 1;"), 2008);
        Kit.due("order 8", Kit.faultOf(0, "order 8 1;"), 2006);
        Kit.due("delay 7", Kit.faultOf(0, "delay 7 7 1;"), 2006);
        Kit.due("delay to 7", Kit.faultOf(0, "delay 0 7 1;"), 2008);
        Kit.due("delay to itself", Kit.faultOf(0, "delay 2 2 0;"), 2008);
        Kit.due("delay 0", Kit.faultOf(0, "delay 0 1 0;"), 2010);
        Kit.due("delay 10", Kit.faultOf(0, "delay 0 1 10;"), 2010);
        Kit.due("propose 7", Kit.faultOf(1, "propose 7 1 0;"), 2008);
        Kit.due("propose at 13", Kit.faultOf(1, "propose 0 13 0;"), 2010);
        Kit.due("propose 10", Kit.faultOf(1, "propose 0 12 10;"), 2013);
        Kit.due("PLACE as MEMBER", Kit.faultOf(1, "propose 1 1 9;"), 0);
        Kit.due("prepare to itself", Kit.faultOf(1, "prepare 1 1 1;"), 2010);
        Kit.due("commit to itself", Kit.faultOf(1, "commit 6 6 1;"), 2009);
        Kit.due("commit at 0", Kit.faultOf(1, "commit 6 5 0;"), 2011);
        Kit.due("mark to itself", Kit.faultOf(1, "mark 0 0;"), 2007);
        Kit.due("fetch of itself", Kit.faultOf(1, "fetch 0 0;"), 2008);
        Kit.due("fetch of 7", Kit.faultOf(1, "fetch 0 7;"), 2008);
        for (String word : new String[] {"run", "doubt", "view", "enter"}) {
            Kit.due(word, Kit.faultOf(1, word + " 6;"), 0);
            Kit.due(word + " 7", Kit.faultOf(1, word + " 7;"), 2001 + word.length());
        }
        Kit.due("reply 7", Kit.faultOf(2, "reply 7 0 0;"), 2006);
        Kit.due("VIEW 10", Kit.faultOf(2, "reply 6 10 0;"), 2008);
        Kit.due("RESULT 99", Kit.faultOf(2, "reply 6 9 99;"), 0);
        Kit.due("the first 2 counts", Kit.faultOf(0, "step 1; step 9; faults 9;"), 2013);
    }

    private static void fullTexts() {
        Kit.due("10 ORDERS", Kit.faultOf(0, "order 0 1;".repeat(10)), 0);
        Kit.due("11 ORDERS", Kit.faultOf(0, "order 0 1;".repeat(11)), 3100);
        Kit.due("11 ORDERS, a 2 ahead", Kit.faultOf(0, "order 0 1;".repeat(9) + "order 9 1;order 0 1;"), 2096);
        Kit.due("an 11th with a 2", Kit.faultOf(0, "order 0 1;".repeat(10) + "order 9 1;"), 3100);
        Kit.due("40 DEEDS", Kit.faultOf(1, "run 0;".repeat(40)), 0);
        Kit.due("41 DEEDS", Kit.faultOf(1, "run 0;".repeat(40) + " enter 0;"), 3241);
        Kit.due("12 REPLIES", Kit.faultOf(2, "reply 0 0 0;".repeat(12)), 0);
        Kit.due("13 REPLIES", Kit.faultOf(2, "reply 0 0 0;".repeat(13)), 3144);
    }

    private static void absentMembers() {
        Kit.due("liar 4 of 4", Kit.faultOf(0, "liar 4; "), 4008);
        Kit.due("liar 4 of 7", Kit.faultOf(0, "liar 4; faults 2;"), 0);
        Kit.due("liar 1 of 1", Kit.faultOf(0, "liar 1; faults 0;"), 4017);
        Kit.due("delay 0 1 of 1", Kit.faultOf(0, "faults 0;delay 0 1 1;"), 4021);
        Kit.due("delay 4 0 of 4", Kit.faultOf(0, "delay 4 0 1;"), 4012);
        Kit.due("of a RUN there is no FAULT 4", Kit.faultOf(1, "run 6;"), 0);
        Kit.due("nor of REPLIES", Kit.faultOf(2, "reply 6 0 0;"), 0);
    }

    private static void councils() {
        ThreePhases x = Kit.with("");
        int[] plain = {1, 4, 2, 0, 0};
        for (int what = 0; what < 5; what++) {
            Kit.due("council at first, " + what, x.council(0, what), plain[what]);
        }
        Kit.due("an ACCOUNT at first", x.council(0, 17), 0);
        Kit.due("a DELAY at first", x.council(0, 103), 1);
        Kit.due("of 4 there is no 4", x.council(0, 104), NONE);
        x = Kit.with("faults 0;faults 2;window 3;window 5;step 4;liar 1;liar 6;liar 1;account 0 7;account 7 98;"
            + "account 0 9;order 3 4;order 3 4;order 5 99;delay 2 5 7;delay 5 2 8;");
        int[] due = {2, 5, 4, 66, 3};
        for (int what = 0; what < 5; what++) {
            Kit.due("council " + what, x.council(0, what), due[what]);
        }
        Kit.due("account 0", x.council(0, 10), 9);
        Kit.due("account 7", x.council(0, 17), 98);
        Kit.due("order 1's account", x.council(0, 21), 3);
        Kit.due("order 2's PLUS", x.council(0, 32), 99);
        Kit.due("delay 2 5", x.council(0, 125), 8);
        Kit.due("delay 5 2", x.council(0, 152), 8);
        Kit.due("delay 6 0", x.council(0, 160), 1);
        int[] none = {5, 9, 18, 19, 23, 33, 40, 99, 100, 111, 107, 109, 170, 199, 200, -1, Integer.MIN_VALUE};
        for (int what : none) {
            Kit.due("council " + what, x.council(0, what), NONE);
        }
        Kit.due("council(1, 0)", x.council(1, 0), NONE);
        Kit.due("council(-1, 0)", x.council(-1, 0), NONE);
    }

    private static void deeds() {
        ThreePhases x = new ThreePhases();
        Kit.tell(x, 1, NONE, "propose 1 12 9;prepare 1 2 3;commit 4 5 6;run 6;mark 1 0;fetch 0 1;doubt 1;view 2;enter 3;");
        int[][] due = {{0, 1, 12, 9}, {1, 1, 2, 3}, {2, 4, 5, 6}, {3, 6, -1, -1}, {4, 1, 0, -1}, {5, 0, 1, -1},
            {6, 1, -1, -1}, {7, 2, -1, -1}, {8, 3, -1, -1}};
        Kit.due("how many", x.deed(0, NONE, 0), 9);
        for (int k = 0; k < due.length; k++) {
            for (int what = 0; what < 4; what++) {
                Kit.due("deed " + k + " " + what, x.deed(0, k, what), due[k][what]);
            }
        }
        Kit.due("deed(0, -1, 1)", x.deed(0, NONE, 1), -2);
        Kit.due("deed(0, 9, 0)", x.deed(0, 9, 0), -2);
        Kit.due("deed(0, -2, 0)", x.deed(0, -2, 0), -2);
        Kit.due("deed(0, 0, 4)", x.deed(0, 0, 4), -2);
        Kit.due("deed(0, 0, -1)", x.deed(0, 0, -1), -2);
        Kit.due("deed(1, 0, 0)", x.deed(1, 0, 0), -2);
    }

    private static void replies() {
        ThreePhases x = new ThreePhases();
        Kit.tell(x, 2, NONE, "reply 1 2 3; reply 6 9 99;");
        Kit.due("how many", x.reply(0, NONE, 0), 2);
        Kit.due("MEMBER", x.reply(0, 1, 0), 6);
        Kit.due("VIEW", x.reply(0, 1, 1), 9);
        Kit.due("RESULT", x.reply(0, 1, 2), 99);
        Kit.due("reply(0, 0, 2)", x.reply(0, 0, 2), 3);
        Kit.due("reply(0, -1, 1)", x.reply(0, NONE, 1), -2);
        Kit.due("reply(0, 2, 0)", x.reply(0, 2, 0), -2);
        Kit.due("reply(0, 0, 3)", x.reply(0, 0, 3), -2);
        Kit.due("reply(1, 0, 0)", x.reply(1, 0, 0), -2);
    }

    private static void images() {
        ThreePhases x = Kit.with("step 3;", "run 0;");
        Kit.tell(x, 2, NONE, "reply 0 0 0 0;");
        Kit.feed(x, "step");
        Kit.due("image(-1)", x.image(-1), false);
        Kit.due("image(3)", x.image(3), false);
        Kit.due("image(2)", x.image(2), true);
        Kit.due("again(1)", x.again(1), false);
        Kit.due("again(3)", x.again(3), false);
        Kit.due("again(-1)", x.again(-1), false);
        x.end(0);
        Kit.tell(x, 0, 0, "faults 2;order 1 1;account 1 1;delay 5 6 7;");
        Kit.tell(x, 1, 0, "doubt 1;view 2;");
        Kit.tell(x, 2, NONE, "reply 0 0 0;");
        Kit.due("image(0)", x.image(0), true);
        Kit.due("again(2)", x.again(2), true);
        Kit.due("the tape", x.end(5), NONE);
        Kit.due("the tape", x.end(4), 4);
        Kit.due("the FAULT", x.fault(0), 1);
        Kit.due("its place", x.fault(1), 12);
        Kit.due("REPLIES", x.count(2), 0);
        Kit.due("STEP", x.council(0, 2), 3);
        Kit.due("FAULTS", x.council(0, 0), 1);
        Kit.due("DEEDS", x.deed(0, NONE, 0), 1);
        Kit.due("again(0)", x.again(0), true);
        Kit.due("FAULTS", x.council(0, 0), 2);
        Kit.due("DELAY", x.council(0, 165), 7);
        Kit.due("DEEDS", x.deed(0, 1, 0), 7);
        Kit.due("REPLIES", x.count(2), 1);
        Kit.due("image 2 stays", x.again(2) && x.council(0, 2) == 3, true);
    }
}
