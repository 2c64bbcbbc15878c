/** Term 1 and promises 2 to 7, 16, 28 to 30: the tape, texts and their FAULTS, what is told, images. */
final class TextEdges {
    private static final int NONE = ThreePhases.NONE;
    private static final int COUNCIL = 0;
    private static final int RUN = 1;
    private static final int REPLIES = 2;
    /** A word, its sort, how many NUMBERS it takes: 1, 1 2, and 1 2 3 may be NUMBERS of each. */
    private static final String[][] LINES = {
        {"faults", "0", "1"}, {"window", "0", "1"}, {"step", "0", "1"}, {"liar", "0", "1"}, {"account", "0", "2"},
        {"order", "0", "2"}, {"delay", "0", "3"}, {"propose", "1", "3"}, {"prepare", "1", "3"}, {"commit", "1", "3"},
        {"mark", "1", "2"}, {"fetch", "1", "2"}, {"run", "1", "1"}, {"doubt", "1", "1"}, {"view", "1", "1"},
        {"enter", "1", "1"}, {"reply", "2", "3"}};

    private TextEdges() {
    }

    static void all() {
        Doc.about("Term 1");
        councilNumbers();
        accountsAndOrders();
        howMany();
        tokens();
        councilLines();
        runLines();
        replyLines();
        laterOnes();
        firstFaults();
        otherFaults();
        sorts();
        feed();
        end();
        text();
        fault();
        council();
        deed();
        reply();
        count();
        image();
        again();
    }

    private static void fault(int sort, String text, int fault, int place) {
        Kit.due("the FAULT of \"" + text + "\"", Kit.faultOf(sort, text), fault == 0 ? 0 : 1000 * fault + place);
    }

    private static void isRead(int sort, String text) {
        fault(sort, text, 0, NONE);
    }

    private static void councilNumbers() {
        Doc.says("A COUNCIL has FAULTS, 0 .. 2 (1 at first),");
        Kit.due("at first", Kit.with("").council(0, 0), 1);
        Kit.due("the least", Kit.with("faults 0;").council(0, 0), 0);
        Kit.due("the greatest", Kit.with("faults 2;").council(0, 0), 2);
        fault(COUNCIL, "faults 3;", 2, 7);
        Doc.says("three times that and one MEMBERS, from 0 on;");
        for (int faults = 0; faults < 3; faults++) {
            ThreePhases x = Kit.with("faults " + faults + ";", "");
            Kit.due("the first, FAULTS " + faults, x.state(0, 0, 0, 0, 1), 1);
            Kit.due("the last, FAULTS " + faults, x.state(0, 0, 0, 3 * faults, 1), 1);
            Kit.due("none behind it, FAULTS " + faults, x.state(0, 0, 0, 3 * faults + 1, 1), -2);
            Kit.due("none ahead of 0", x.state(0, 0, 0, -1, 1), -2);
        }
        Doc.says("a QUORUM are twice FAULTS and one of them;");
        for (int faults = 0; faults < 3; faults++) {
            Kit.due("FAULTS " + faults, Kit.with("faults " + faults + ";").quorum(0, 0), 2 * faults + 1);
        }
        Doc.says("a WINDOW, 1 .. 9 (4 at first),");
        Kit.due("at first", Kit.with("").council(0, 1), 4);
        Kit.due("the least", Kit.with("window 1;").council(0, 1), 1);
        Kit.due("the greatest", Kit.with("window 9;").council(0, 1), 9);
        fault(COUNCIL, "window 0;", 2, 7);
        fault(COUNCIL, "window 10;", 2, 7);
        Doc.says("a STEP, 1 .. 4 (2 at first);");
        Kit.due("at first", Kit.with("").council(0, 2), 2);
        Kit.due("the least", Kit.with("step 1;").council(0, 2), 1);
        Kit.due("the greatest", Kit.with("step 4;").council(0, 2), 4);
        fault(COUNCIL, "step 0;", 2, 5);
        fault(COUNCIL, "step 5;", 2, 5);
        Doc.says("LIARS, MEMBERS (none at first), all others are HONEST;");
        Kit.due("none at first", Kit.with("").council(0, 3), 0);
        Kit.due("all are HONEST", Kit.with("").quorum(0, 3), 4);
        Kit.due("the first and the last", Kit.with("liar 3;liar 0;").council(0, 3), 9);
        Kit.due("all others", Kit.with("liar 3;liar 0;").quorum(0, 3), 2);
        Kit.due("no others", Kit.with("liar 0;liar 1;liar 2;liar 3;").quorum(0, 3), 0);
    }

    private static void accountsAndOrders() {
        Doc.says("ACCOUNTS 0 .. 7, 0 .. 99 each (0 at first);");
        ThreePhases x = Kit.with("account 0 99;account 7 0;account 6 99;");
        int[] has = {99, 0, 0, 0, 0, 0, 99, 0};
        for (int a = 0; a < 8; a++) {
            Kit.due("ACCOUNT " + a, x.council(0, 10 + a), has[a]);
        }
        fault(COUNCIL, "account 8 0;", 2, 8);
        fault(COUNCIL, "account 0 100;", 1, 10);
        Doc.says("ORDERS, at most 10, from 0 on: an ACCOUNT, PLUS, 0 .. 99;");
        x = Kit.with("order 7 99;" + "order 1 5;".repeat(8) + "order 0 0;");
        Kit.due("how many", x.council(0, 4), 10);
        Kit.due("the first's ACCOUNT", x.council(0, 20), 7);
        Kit.due("the first's PLUS", x.council(0, 30), 99);
        Kit.due("the last's ACCOUNT", x.council(0, 29), 0);
        Kit.due("the last's PLUS", x.council(0, 39), 0);
        fault(COUNCIL, "order 0 1;".repeat(11), 3, 100);
        fault(COUNCIL, "order 8 1;", 2, 6);
        Doc.says("DELAYS, 1 .. 9 minutes, between any two unlike MEMBERS, both ways alike (1 at first).");
        x = Kit.with("faults 2;delay 6 0 9;");
        for (int a = 0; a < 7; a++) {
            for (int b = 0; b < 7; b++) {
                int due = a == b ? NONE : a + b == 6 && a * b == 0 ? 9 : 1;
                Kit.due("DELAY " + a + " " + b, x.council(0, 100 + 10 * a + b), due);
            }
        }
        fault(COUNCIL, "delay 0 1 0;", 2, 10);
        fault(COUNCIL, "delay 0 1 10;", 2, 10);
        fault(COUNCIL, "delay 1 1 1;", 2, 8);
        Doc.says("ORDER 10 is NOTHING.");
        x = Kit.with("faults 0;order 0 5;order 0 6;order 0 7;", "propose 0 2 0;doubt 0;view 0;");
        Kit.due("the PLACE without a PROOF", x.state(0, 0, 3, 0, 100), 10);
    }

    private static void howMany() {
        Doc.says("A RUN has DEEDS, at most 40, from 0 on.");
        ThreePhases x = new ThreePhases();
        Kit.due("40 of them", Kit.tell(x, 1, NONE, "doubt 1;" + "run 0;".repeat(38) + "enter 2;"), 0);
        Kit.due("how many", x.deed(0, NONE, 0), 40);
        Kit.due("the first", x.deed(0, 0, 0), 6);
        Kit.due("the last", x.deed(0, 39, 0), 8);
        fault(RUN, "run 0;".repeat(41), 3, 240);
        Doc.says("REPLIES are at most 12, from 0 on: of a MEMBER, a VIEW, 0 .. 9, a RESULT, 0 .. 99.");
        Kit.due("12 of them", Kit.tell(x, 2, NONE, "reply 6 9 99;" + "reply 1 1 1;".repeat(10) + "reply 0 0 0;"), 0);
        Kit.due("how many", x.reply(0, NONE, 0), 12);
        int[][] due = {{6, 9, 99}, {0, 0, 0}};
        for (int what = 0; what < 3; what++) {
            Kit.due("the first, " + what, x.reply(0, 0, what), due[0][what]);
            Kit.due("the last, " + what, x.reply(0, 11, what), due[1][what]);
        }
        fault(REPLIES, "reply 0 0 0;".repeat(13), 3, 144);
        fault(REPLIES, "reply 0 10 0;", 2, 8);
        Doc.says("THE TAPE has at most 600 bytes.");
        x = new ThreePhases();
        for (int k = 1; k <= 30; k++) {
            Kit.due("feed " + k, x.feed(0, 0, 0, 0, 0), 20 * k);
        }
        Kit.due("feed 31", x.feed(0, 0, 0, 0, 0), NONE);
        Kit.due("a text up to its 600th byte", Kit.with(" ".repeat(593) + "step 3;").council(0, 2), 3);
        fault(COUNCIL, " ".repeat(599) + "!", 1, 599);
        fault(COUNCIL, " ".repeat(594) + "step 3", 1, 600);
    }

    private static void tokens() {
        Doc.says("TOKENS, as long as they go,");
        fault(COUNCIL, "stepliar 1;", 1, 0);
        fault(COUNCIL, "step 11;", 2, 5);
        fault(COUNCIL, "order 12;", 1, 8);
        fault(COUNCIL, "st", 1, 0);
        ThreePhases x = new ThreePhases();
        Kit.feed(x, "steps 31;");
        x.end(4);
        x.text(0, NONE);
        Kit.due("not beyond the tape's end", x.fault(1), 4);
        Kit.feed(x, "step 31;");
        x.end(6);
        x.text(0, NONE);
        Kit.due("not beyond the tape's end", x.fault(1), 6);
        fault(COUNCIL, " ".repeat(596) + "step", 1, 600);
        fault(COUNCIL, " ".repeat(593) + "step 12", 1, 600);
        Kit.due("PLUS of two digits", Kit.with("order 1 23;").council(0, 30), 23);
        Doc.says("blanks (10, 32) between:");
        isRead(COUNCIL, "\n  step\n\n3 ;  \n liar\n1\n;\n");
        isRead(COUNCIL, "step3;liar1;order1 2;");
        isRead(COUNCIL, " \n ");
        fault(COUNCIL, "st ep 3;", 1, 0);
        fault(COUNCIL, "order 1\n2\n3;", 1, 10);
        for (int odd : new int[] {0, 1, 9, 11, 12, 13, 31, 33, 127, 128, 138, 160, 255}) {
            fault(COUNCIL, "step" + (char) odd + "3;", 1, 4);
        }
        Doc.says("words, rows of letters a .. z;");
        fault(COUNCIL, "`step 3;", 1, 0);
        fault(COUNCIL, "stepa 3;", 1, 0);
        fault(COUNCIL, "stepz 3;", 1, 0);
        fault(COUNCIL, "step{ 3;", 1, 4);
        fault(COUNCIL, "step 3;Liar 1;", 1, 7);
        fault(COUNCIL, "liAr 1;", 1, 0);
        fault(COUNCIL, "step_ 1;", 1, 4);
        Doc.says("NUMBERS, 1 or 2 digits;");
        isRead(COUNCIL, "step 3;step 03;account 7 90;account 07 09;");
        fault(COUNCIL, "step /;", 1, 5);
        fault(COUNCIL, "step :;", 1, 5);
        fault(COUNCIL, "step -1;", 1, 5);
        fault(COUNCIL, "step 003;", 1, 5);
        Doc.says("; one byte.");
        fault(COUNCIL, "step 3;;", 1, 7);
        fault(COUNCIL, "step 3:", 1, 6);
        isRead(COUNCIL, "step 3;step 3;");
    }

    /** A line takes just as many NUMBERS as it takes, and a semicolon. */
    private static void shape(String[] line) {
        int sort = Integer.parseInt(line[1]);
        String[] numbers = {"", " 1", " 1 2", " 1 2 3", " 1 2 3 4"};
        int many = Integer.parseInt(line[2]);
        String whole = line[0] + numbers[many];
        isRead(sort, whole + ";");
        isRead(sort, whole + ";" + whole + ";");
        String less = line[0] + numbers[many - 1];
        fault(sort, less + ";", 1, less.length());
        fault(sort, whole + " 4;", 1, whole.length() + 1);
        fault(sort, whole, 1, whole.length());
        fault(sort, whole + " " + whole + ";", 1, whole.length() + 1);
        fault(sort, ";" + whole + ";", 1, 0);
        for (int k = 0; k < line[0].length(); k++) {
            fault(sort, whole.substring(0, k) + "q" + whole.substring(k + 1) + ";", 1, 0);
        }
        for (int other = 0; other < 3; other++) {
            if (other != sort) {
                fault(other, whole + ";", 1, 0);
            }
        }
    }

    private static void shapes(int sort) {
        isRead(sort, "");
        for (String[] line : LINES) {
            if (line[1].equals(String.valueOf(sort))) {
                shape(line);
            }
        }
        fault(sort, "word 1;", 1, 0);
        fault(sort, "1;", 1, 0);
    }

    /** Just these values of one NUMBER may be, the text ahead and behind being given. */
    private static void range(int sort, String ahead, String behind, int least, int most) {
        for (int n = 0; n < 100; n++) {
            boolean may = n >= least && n <= most;
            fault(sort, ahead + n + behind, may ? 0 : 2, ahead.length());
        }
    }

    private static void councilLines() {
        Doc.says("A COUNCIL's text: {(('faults' | 'window' | 'step' | 'liar') NUMBER | ('account' | 'order') NUMBER NUMBER "
            + "| 'delay' NUMBER NUMBER NUMBER) ';'}");
        shapes(COUNCIL);
        Doc.says("(liar: a MEMBER; account: an ACCOUNT, what it has; order: an ACCOUNT, PLUS; delay: two MEMBERS, minutes; "
            + "MEMBERS are 0 .. 6).");
        range(COUNCIL, "faults 2;liar ", ";", 0, 6);
        range(COUNCIL, "account ", " 9;", 0, 7);
        range(COUNCIL, "account 7 ", ";", 0, 99);
        range(COUNCIL, "order ", " 9;", 0, 7);
        range(COUNCIL, "order 7 ", ";", 0, 99);
        range(COUNCIL, "faults 2;delay 0 ", " 1;", 1, 6);
        isRead(COUNCIL, "faults 2;delay 6 0 1;");
        fault(COUNCIL, "faults 2;delay 7 0 1;", 2, 15);
        range(COUNCIL, "delay 0 1 ", ";", 1, 9);
    }

    private static void runLines() {
        Doc.says("A RUN's text: {(('propose' | 'prepare' | 'commit') NUMBER NUMBER NUMBER | ('mark' | 'fetch') NUMBER NUMBER "
            + "| ('run' | 'doubt' | 'view' | 'enter') NUMBER) ';'}");
        shapes(RUN);
        Doc.says("(propose: a MEMBER, a PLACE, 1 .. 12, an ORDER, 0 .. 9; prepare, commit: two MEMBERS, a PLACE; "
            + "mark, fetch: two MEMBERS; else a MEMBER).");
        range(RUN, "propose ", " 1 0;", 0, 6);
        range(RUN, "propose 6 ", " 9;", 1, 12);
        range(RUN, "propose 6 12 ", ";", 0, 9);
        for (String word : new String[] {"prepare", "commit"}) {
            range(RUN, word + " 0 ", " 1;", 1, 6);
            range(RUN, word + " 6 5 ", ";", 1, 12);
        }
        for (String word : new String[] {"mark", "fetch"}) {
            range(RUN, word + " 0 ", ";", 1, 6);
        }
        for (String word : new String[] {"run", "doubt", "view", "enter"}) {
            range(RUN, word + " ", ";", 0, 6);
        }
        fault(RUN, "prepare 7 0 1;", 2, 8);
        fault(RUN, "commit 7 0 1;", 2, 7);
        fault(RUN, "mark 7 0;", 2, 5);
        fault(RUN, "fetch 7 0;", 2, 6);
    }

    private static void replyLines() {
        Doc.says("A text of REPLIES: {'reply' NUMBER NUMBER NUMBER ';'} (a MEMBER, a VIEW, a RESULT).");
        shapes(REPLIES);
        range(REPLIES, "reply ", " 9 99;", 0, 6);
        range(REPLIES, "reply 6 ", " 99;", 0, 9);
        range(REPLIES, "reply 6 9 ", ";", 0, 99);
        isRead(REPLIES, "reply 1 1 1;");
    }

    private static void laterOnes() {
        Doc.says("Later ones strike (faults, window, step, account, delay of the same two),");
        ThreePhases x = Kit.with("faults 2;faults 1;window 9;window 3;step 4;step 1;account 5 7;account 5 8;"
            + "delay 0 2 9;delay 1 2 8;delay 2 0 7;");
        int[] due = {1, 3, 1};
        for (int what = 0; what < 3; what++) {
            Kit.due("council(0, " + what + ")", x.council(0, what), due[what]);
        }
        Kit.due("account 5", x.council(0, 15), 8);
        Kit.due("delay 0 2", x.council(0, 102), 7);
        Kit.due("delay 2 0", x.council(0, 120), 7);
        Kit.due("delay of other two", x.council(0, 112), 8);
        Doc.says("but all others, which are further ones.");
        x = Kit.with("liar 1;liar 1;liar 2;order 3 4;order 3 4;order 3 5;", "run 0;run 0;");
        Kit.tell(x, 2, NONE, "reply 0 0 1;reply 0 0 1;");
        Kit.due("LIARS", x.council(0, 3), 6);
        Kit.due("ORDERS", x.council(0, 4), 3);
        Kit.due("DEEDS", x.deed(0, NONE, 0), 2);
        Kit.due("REPLIES", x.reply(0, NONE, 0), 2);
    }

    private static void firstFaults() {
        Doc.says("FAULTS IN TEXTS, with places (a token's first byte; the end's):");
        fault(COUNCIL, "step 3; window 10;", 2, 15);
        fault(COUNCIL, "  order 0 1; steps 1;", 1, 13);
        fault(COUNCIL, "step 3", 1, 6);
        fault(COUNCIL, "step 3 \n ", 1, 9);
        fault(COUNCIL, "liar 4; \n", 4, 9);
        Doc.says("1 the first byte or token with which no text goes on (a longer row of digits is no token).");
        fault(COUNCIL, "step 3! !", 1, 6);
        fault(COUNCIL, "step step !", 1, 5);
        fault(COUNCIL, "step 001;", 1, 5);
        fault(COUNCIL, "account 1 123;", 1, 10);
        fault(COUNCIL, "step 3 0004;", 1, 7);
        fault(COUNCIL, "order 8 1;order 0 1;step 9;?", 1, 27);
        fault(COUNCIL, "order 0 1;".repeat(11) + "order 0 1", 1, 119);
        fault(COUNCIL, "liar 4;0", 1, 7);
        fault(REPLIES, "reply 7 10 0;reply", 1, 18);
        fault(RUN, "run 0;".repeat(41) + "run;", 1, 249);
    }

    private static void otherFaults() {
        Doc.says("If there is none, the first by place, of one place the least:");
        fault(COUNCIL, "step 5;window 0;", 2, 5);
        fault(COUNCIL, "window 9;step 5;window 0;", 2, 14);
        fault(COUNCIL, "order 0 1;".repeat(10) + "step 5;order 0 1;", 2, 105);
        fault(COUNCIL, "order 0 1;".repeat(11) + "step 5;", 3, 100);
        fault(COUNCIL, "order 0 1;".repeat(10) + "order 8 1;", 3, 100);
        fault(COUNCIL, "delay 7 7 0;", 2, 6);
        Doc.says("2 a NUMBER that can't be (as above; a second MEMBER that is the first; "
            + "a line with such a NUMBER tells its ORDER, DEED, REPLY all the same);");
        fault(COUNCIL, "faults 99;", 2, 7);
        for (int m = 0; m < 7; m++) {
            fault(COUNCIL, "faults 2;delay " + m + " " + m + " 1;", 2, 17);
            fault(RUN, "prepare " + m + " " + m + " 1;", 2, 10);
            fault(RUN, "commit " + m + " " + m + " 1;", 2, 9);
            fault(RUN, "mark " + m + " " + m + ";", 2, 7);
            fault(RUN, "fetch " + m + " " + m + ";", 2, 8);
        }
        isRead(RUN, "propose 1 1 1;");
        isRead(REPLIES, "reply 1 1 1;");
        isRead(COUNCIL, "account 1 1;order 1 1;");
        fault(COUNCIL, "order 8 1;" + "order 0 1;".repeat(10), 2, 6);
        Doc.says("3 an 11th ORDER, a 41st DEED, a 13th REPLY, at its first token.");
        isRead(COUNCIL, "order 0 1;".repeat(10) + "account 0 1;");
        fault(COUNCIL, "order 0 1;".repeat(10) + " order 0 1;", 3, 101);
        isRead(RUN, "run 0;".repeat(40));
        fault(RUN, "run 0;".repeat(39) + "mark 0 1; \nenter 0;", 3, 245);
        for (String[] line : LINES) {
            if (line[1].equals("1")) {
                fault(RUN, "run 0;".repeat(40) + line[0] + " 1 2 3;".substring(0, 2 * Integer.parseInt(line[2])) + ";", 3, 240);
            }
        }
        isRead(REPLIES, "reply 0 0 0;".repeat(12));
        fault(REPLIES, "reply 0 0 0;".repeat(12) + "\nreply 0 0 0;", 3, 145);
        Doc.says("If there is none of these, at the end's place, of a COUNCIL: 4 a MEMBER that was told of and is not there.");
        fault(COUNCIL, "liar 3;", 0, NONE);
        fault(COUNCIL, "liar 4;", 4, 7);
        fault(COUNCIL, "faults 0;liar 0;", 0, NONE);
        fault(COUNCIL, "faults 0;liar 1;", 4, 16);
        fault(COUNCIL, "liar 6;faults 2;", 0, NONE);
        fault(COUNCIL, "faults 2;liar 4;faults 1;", 4, 25);
        fault(COUNCIL, "delay 0 4 1;", 4, 12);
        fault(COUNCIL, "delay 4 0 1;", 4, 12);
        fault(COUNCIL, "delay 4 0 1;step 5;", 2, 17);
        fault(COUNCIL, "liar 4;" + "order 0 1;".repeat(11), 3, 107);
        fault(RUN, "run 6;prepare 5 6 1;", 0, NONE);
        fault(REPLIES, "reply 6 0 0;", 0, NONE);
    }

    private static void sorts() {
        Doc.says("COUNCILS, at most 2 (sort 0), RUNS, at most 2 (1), texts of REPLIES, at most 2 (2), from 0 on.");
        String[] texts = {"step 3;", "run 0;", "reply 0 0 0;"};
        ThreePhases x = new ThreePhases();
        for (int sort = 0; sort < 3; sort++) {
            Kit.due("the first of sort " + sort, Kit.tell(x, sort, NONE, texts[sort]), 0);
            Kit.due("the second of sort " + sort, Kit.tell(x, sort, NONE, texts[sort]), 1);
            Kit.due("no third of sort " + sort, Kit.tell(x, sort, NONE, texts[sort]), -2);
            Kit.due("how many of sort " + sort, x.count(sort), 2);
        }
    }

    private static void feed() {
        Doc.about("Promise 2");
        Doc.says("The tape: twenty bytes come behind it, of each number the highest first: how many it has.");
        ThreePhases x = new ThreePhases();
        // "account 1 23;order " and a blank
        Kit.due("feed", x.feed(0x6163636f, 0x756e7420, 0x31203233, 0x3b6f7264, 0x65722020), 20);
        Kit.due("end(19)", x.end(19), 19);
        Kit.due("feed behind 19", x.feed(0x34203536, 0x3b202020, 0x20202020, 0x20202020, 0x20202020), 39);
        Kit.due("text", x.text(0, NONE), 0);
        Kit.due("ACCOUNT", x.council(0, 11), 23);
        Kit.due("ORDER", x.council(0, 20), 4);
        Kit.due("PLUS", x.council(0, 30), 56);
        x.feed(0xffffffff, 0, 0, 0, 0);
        Kit.due("a byte 255 is no blank", x.text(0, NONE), NONE);
        Kit.due("its place", x.fault(1), 0);
        x.feed(0x20202020, 0x20202020, 0x20202020, 0x20202020, 0x20202080);
        Kit.due("the lowest byte of the last number", x.text(0, NONE), NONE);
        Kit.due("its place", x.fault(1), 19);
        Doc.says("NONE, and nothing comes, if there would be more than 600.");
        x = new ThreePhases();
        Kit.feed(x, " ".repeat(574) + "step 3;");
        Kit.due("581 and 20", x.feed(0x21212121, 0x21212121, 0x21212121, 0x21212121, 0x21212121), NONE);
        Kit.due("nothing came", x.end(582), NONE);
        Kit.due("nothing was taken away", x.end(581), 581);
        Kit.due("it is as it was", x.text(0, NONE), 0);
        Kit.feed(x, " ".repeat(580));
        Kit.due("580 and 20", x.feed(0, 0, 0, 0, 0), 600);
        Kit.due("600 and 20", x.feed(0, 0, 0, 0, 0), NONE);
    }

    private static void end() {
        Doc.about("Promise 3");
        Doc.says("The tape has its first n bytes alone: n.");
        ThreePhases x = new ThreePhases();
        Kit.due("0 of an empty tape", x.end(0), 0);
        Kit.feed(x, "step 3;step 4;     ");
        Kit.due("all of it", x.end(19), 19);
        Kit.due("its first 7", x.end(7), 7);
        Kit.due("no longer 8", x.end(8), NONE);
        Kit.due("text", x.text(0, NONE), 0);
        Kit.due("of the first 7 alone", x.council(0, 2), 3);
        Kit.feed(x, "step");
        Kit.due("0", x.end(0), 0);
        Kit.due("text of none", x.text(0, NONE), 1);
        Doc.says("NONE if it has not so many, or n is below 0.");
        Kit.due("1 of an empty tape", x.end(1), NONE);
        x.feed(0, 0, 0, 0, 0);
        for (int n : new int[] {-1, -20, Integer.MIN_VALUE, 21, 600, Integer.MAX_VALUE}) {
            Kit.due("end(" + n + ")", x.end(n), NONE);
            Kit.due("the tape stays", x.end(20), 20);
        }
    }

    private static void text() {
        Doc.about("Promise 4");
        Doc.says("The tape is taken (and is empty then)");
        for (String tape : new String[] {"step 3;", "step 9;", ""}) {
            ThreePhases x = Kit.with("", "");
            for (int sort = -1; sort < 4; sort++) {
                for (int at = -2; at < 3; at++) {
                    Kit.tell(x, sort, at, tape);
                    Kit.due("behind text(" + sort + ", " + at + "), end(1)", x.end(1), NONE);
                    Kit.due("feed", x.feed(0, 0, 0, 0, 0), 20);
                    x.end(0);
                }
            }
        }
        Doc.says("as a text of a sort, a further one (at NONE), or in the place of one: its number.");
        ThreePhases x = new ThreePhases();
        Kit.due("a further one", Kit.tell(x, 0, NONE, "step 3;"), 0);
        Kit.due("a further one", Kit.tell(x, 0, NONE, "step 4;"), 1);
        Kit.due("in the place of the first", Kit.tell(x, 0, 0, "step 1;"), 0);
        Kit.due("in the place of the second", Kit.tell(x, 0, 1, "window 7;"), 1);
        Kit.due("the first", x.council(0, 2), 1);
        Kit.due("the second, not what it was", x.council(1, 2), 2);
        Kit.due("the second", x.council(1, 1), 7);
        Kit.due("how many", x.count(0), 2);
        Kit.due("of another sort", Kit.tell(x, 1, NONE, "run 5;"), 0);
        Kit.due("in its place", Kit.tell(x, 1, 0, ""), 0);
        Kit.due("it is empty", x.deed(0, NONE, 0), 0);
        Kit.tell(x, 1, 0, "doubt 0;doubt 1;doubt 2;");
        Kit.tell(x, 1, 0, "doubt 3;");
        Kit.due("a shorter one in its place", x.deed(0, NONE, 0), 1);
        Kit.due("nothing of the longer one is left", x.after(0, 0, 1), 8);
        Kit.tell(x, 2, NONE, "reply 0 0 1;reply 1 0 1;");
        Kit.tell(x, 2, NONE, "reply 2 0 1;");
        Kit.due("nothing of another one is in it", x.reply(1, NONE, 0), 1);
        Kit.tell(x, 2, 0, "reply 3 0 1;");
        Kit.due("a shorter one in its place", x.voices(0, 0, 1), 8);
        Kit.tell(x, 0, 0, "faults 2;window 9;step 4;order 1 1;order 2 2;liar 0;account 3 3;delay 0 1 5;");
        Kit.tell(x, 0, 0, "order 3 3;");
        int[][] due = {{0, 1}, {1, 4}, {2, 2}, {4, 1}, {20, 3}, {21, NONE}, {3, 0}, {13, 0}, {101, 1}};
        for (int[] pair : due) {
            Kit.due("nothing of the older COUNCIL is left, " + pair[0], x.council(0, pair[0]), pair[1]);
        }
        Kit.tell(x, 0, 0, "step 1;");
        Doc.says("NONE: a FAULT IN it.");
        Kit.due("in the place of one", Kit.tell(x, 0, 0, "step 4;step 5;"), NONE);
        Kit.due("that one stays", x.council(0, 2), 1);
        x = Kit.with("step 1;");
        Kit.due("a further one", Kit.tell(x, 2, NONE, "reply"), NONE);
        Kit.due("there is none", x.count(2), 0);
        Kit.due("a further one with FAULT 4", Kit.tell(x, 0, NONE, "liar 4;"), NONE);
        Kit.due("there is none", x.count(0), 1);
        notRead();
    }

    private static void notRead() {
        Doc.says("-2: there is none such, there are as many as may be, or no such sort (no text is read then, FAULT 0).");
        ThreePhases x = Kit.with("step 3;");
        int[][] none = {{0, 1}, {0, 2}, {0, -2}, {0, Integer.MAX_VALUE}, {0, Integer.MIN_VALUE}, {1, 0}, {2, 0},
            {3, NONE}, {3, 0}, {-1, NONE}, {-1, 0}, {Integer.MIN_VALUE, NONE}, {Integer.MAX_VALUE, NONE}};
        for (int[] call : none) {
            Kit.tell(x, 0, NONE, "a FAULT");
            Kit.due("text(" + call[0] + ", " + call[1] + ")", Kit.tell(x, call[0], call[1], "no text"), -2);
            Kit.due("its FAULT", x.fault(0), 0);
            Kit.due("its place", x.fault(1), NONE);
            Kit.due("the COUNCIL stays", x.council(0, 2), 3);
            Kit.due("it alone", x.count(0) + x.count(1) + x.count(2), 1);
        }
        Kit.tell(x, 0, NONE, "step 4;");
        Kit.tell(x, 0, 0, "a FAULT");
        Kit.due("a third", Kit.tell(x, 0, NONE, "step 1;"), -2);
        Kit.due("its FAULT", x.fault(0), 0);
        Kit.due("no FAULT is found where none is read", Kit.tell(x, 0, 2, "step 9;"), -2);
        Kit.due("its FAULT", x.fault(0), 0);
        Kit.due("the second stays", x.council(1, 2), 4);
    }

    private static void fault() {
        Doc.about("Promise 5");
        Doc.says("Of the latest text(), what 0: the FAULT IN it, 0 without, 1: its place, NONE without.");
        ThreePhases x = new ThreePhases();
        String[] texts = {"", "step", "liar 7;", "order 0 1;".repeat(11), "liar 4;", "step 3;"};
        int[][] due = {{0, NONE}, {1, 4}, {2, 5}, {3, 100}, {4, 7}, {0, NONE}};
        Kit.due("before any", x.fault(0), 0);
        Kit.due("before any, its place", x.fault(1), NONE);
        for (int k = 0; k < texts.length; k++) {
            Kit.tell(x, 0, NONE, texts[k]);
            Kit.feed(x, "other bytes");
            Kit.due("the FAULT of " + texts[k], x.fault(0), due[k][0]);
            Kit.due("its place", x.fault(1), due[k][1]);
            x.end(0);
        }
        Doc.says("NONE for another what.");
        Kit.tell(x, 0, 0, "step");
        for (int what : new int[] {-1, 2, 3, Integer.MIN_VALUE, Integer.MAX_VALUE}) {
            Kit.due("fault(" + what + ")", x.fault(what), NONE);
        }
    }

    private static void council() {
        Doc.about("Promise 6");
        Doc.says("Of a COUNCIL, what 0: FAULTS, 1: WINDOW, 2: STEP, 3: LIARS (bits), 4: ORDERS, 10 + a: an ACCOUNT, "
            + "20 + k, 30 + k: of an ORDER the ACCOUNT, PLUS, 100 + 10 a + b: DELAY between two unlike MEMBERS.");
        ThreePhases x = Kit.with("step 1;");
        Kit.tell(x, 0, NONE, "faults 2;window 8;step 3;liar 6;liar 0;account 0 11;account 7 18;"
            + "order 6 98;order 5 97;delay 0 6 5;delay 5 6 4;");
        int[][] due = {{0, 2}, {1, 8}, {2, 3}, {3, 65}, {4, 2}, {10, 11}, {11, 0}, {17, 18}, {20, 6}, {21, 5}, {30, 98},
            {31, 97}, {106, 5}, {160, 5}, {156, 4}, {165, 4}, {101, 1}};
        for (int[] pair : due) {
            Kit.due("council(1, " + pair[0] + ")", x.council(1, pair[0]), pair[1]);
        }
        Doc.says("NONE: there is none such (of any), or for another what.");
        for (int c : new int[] {-1, 2, 3, Integer.MIN_VALUE, Integer.MAX_VALUE}) {
            Kit.due("council(" + c + ", 0)", x.council(c, 0), NONE);
        }
        int[] none = {5, 9, 18, 19, 22, 29, 32, 39, 40, 99, 100, 107, 108, 109, 111, 166, 167, 170, 176, 199, 200, 201, 1000,
            -1, -10, Integer.MIN_VALUE, Integer.MAX_VALUE};
        for (int what : none) {
            Kit.due("council(1, " + what + ")", x.council(1, what), NONE);
        }
        for (int what : new int[] {20, 30, 104, 140, 134, 143, 144}) {
            Kit.due("council(0, " + what + "), no ORDERS, MEMBERS 0 to 3", x.council(0, what), NONE);
        }
    }

    private static void deed() {
        Doc.about("Promise 7");
        ThreePhases x = new ThreePhases();
        Kit.tell(x, 1, NONE, "");
        Kit.tell(x, 1, NONE, "propose 6 12 9;prepare 5 4 3;commit 2 1 11;run 6;mark 3 2;fetch 1 0;doubt 5;view 4;enter 0;");
        Doc.says("How many DEEDS (k NONE, what 0);");
        Kit.due("of an empty RUN", x.deed(0, NONE, 0), 0);
        Kit.due("of another", x.deed(1, NONE, 0), 9);
        Doc.says("of DEED k, what 0: 0 propose, 1 prepare, 2 commit, 3 run, 4 mark, 5 fetch, 6 doubt, 7 view, 8 enter, "
            + "1, 2, 3: its numbers (NONE without).");
        int[][] due = {{6, 12, 9}, {5, 4, 3}, {2, 1, 11}, {6, -1, -1}, {3, 2, -1}, {1, 0, -1}, {5, -1, -1}, {4, -1, -1},
            {0, -1, -1}};
        for (int k = 0; k < 9; k++) {
            Kit.due("DEED " + k, x.deed(1, k, 0), k);
            for (int what = 1; what < 4; what++) {
                Kit.due("DEED " + k + ", " + what, x.deed(1, k, what), due[k][what - 1]);
            }
        }
        Doc.says("-2: there is none such (of either), or for another what.");
        for (int run : new int[] {-1, 2, Integer.MIN_VALUE, Integer.MAX_VALUE}) {
            Kit.due("deed(" + run + ", NONE, 0)", x.deed(run, NONE, 0), -2);
        }
        Kit.due("of an empty RUN, DEED 0", x.deed(0, 0, 0), -2);
        for (int k : new int[] {-2, 9, 40, Integer.MIN_VALUE, Integer.MAX_VALUE}) {
            Kit.due("deed(1, " + k + ", 0)", x.deed(1, k, 0), -2);
        }
        for (int what : new int[] {-1, 4, Integer.MIN_VALUE, Integer.MAX_VALUE}) {
            Kit.due("deed(1, 0, " + what + ")", x.deed(1, 0, what), -2);
            Kit.due("deed(1, NONE, " + what + ")", x.deed(1, NONE, what), -2);
        }
        Kit.due("deed(1, NONE, 1)", x.deed(1, NONE, 1), -2);
    }

    private static void reply() {
        Doc.about("Promise 16");
        ThreePhases x = new ThreePhases();
        Kit.tell(x, 2, NONE, "");
        Kit.tell(x, 2, NONE, "reply 6 9 99;reply 0 0 0;reply 1 2 3;");
        Doc.says("How many REPLIES (k NONE, what 0);");
        Kit.due("of an empty text", x.reply(0, NONE, 0), 0);
        Kit.due("of another", x.reply(1, NONE, 0), 3);
        Doc.says("of the k-th, what 0: the MEMBER, 1: the VIEW, 2: the RESULT.");
        int[][] due = {{6, 9, 99}, {0, 0, 0}, {1, 2, 3}};
        for (int k = 0; k < 3; k++) {
            for (int what = 0; what < 3; what++) {
                Kit.due("REPLY " + k + ", " + what, x.reply(1, k, what), due[k][what]);
            }
        }
        Doc.says("-2: there is none such (of either), or for another what.");
        for (int replies : new int[] {-1, 2, Integer.MIN_VALUE, Integer.MAX_VALUE}) {
            Kit.due("reply(" + replies + ", NONE, 0)", x.reply(replies, NONE, 0), -2);
        }
        Kit.due("of an empty text, REPLY 0", x.reply(0, 0, 0), -2);
        for (int k : new int[] {-2, 3, 12, Integer.MIN_VALUE, Integer.MAX_VALUE}) {
            Kit.due("reply(1, " + k + ", 0)", x.reply(1, k, 0), -2);
        }
        for (int what : new int[] {-1, 3, Integer.MIN_VALUE, Integer.MAX_VALUE}) {
            Kit.due("reply(1, 0, " + what + ")", x.reply(1, 0, what), -2);
            Kit.due("reply(1, NONE, " + what + ")", x.reply(1, NONE, what), -2);
        }
        Kit.due("reply(1, NONE, 1)", x.reply(1, NONE, 1), -2);
    }

    private static void count() {
        Doc.about("Promise 28");
        Doc.says("How many there are of a sort.");
        ThreePhases x = Kit.with("", "");
        Kit.tell(x, 1, NONE, "");
        Kit.due("COUNCILS", x.count(0), 1);
        Kit.due("RUNS", x.count(1), 2);
        Kit.due("texts of REPLIES", x.count(2), 0);
        Doc.says("-2 for another one.");
        for (int sort : new int[] {-1, 3, Integer.MIN_VALUE, Integer.MAX_VALUE}) {
            Kit.due("count(" + sort + ")", x.count(sort), -2);
        }
    }

    private static void image() {
        Doc.about("Promise 29");
        Doc.says("Image k (0 .. 2) is all that is told (the tape, the FAULT, too), as it is now: true;");
        ThreePhases x = Kit.with("step 3;account 4 5;", "run 6;");
        Kit.tell(x, 2, NONE, "reply 1 2 3;");
        Kit.tell(x, 2, NONE, "reply 1 2 3 4;");
        Kit.feed(x, "window 7;");
        Kit.due("image(0)", x.image(0), true);
        Kit.tell(x, 0, 0, "step 4;");
        Kit.tell(x, 1, 0, "run 4;run 4;");
        Kit.tell(x, 1, NONE, "run 5;");
        Kit.tell(x, 2, 0, "");
        Kit.due("image(2)", x.image(2), true);
        Kit.due("again(0)", x.again(0), true);
        Kit.due("the COUNCIL", x.council(0, 2), 3);
        Kit.due("its ACCOUNT", x.council(0, 14), 5);
        Kit.due("RUNS", x.count(1), 1);
        Kit.due("the RUN", x.deed(0, 0, 1), 6);
        Kit.due("the REPLY", x.reply(0, 0, 2), 3);
        Kit.due("the FAULT", x.fault(0), 1);
        Kit.due("its place", x.fault(1), 12);
        Kit.due("the tape", x.end(10), NONE);
        Kit.due("the tape as a text", x.text(0, 0), 0);
        Kit.due("its bytes", x.council(0, 1), 7);
        Kit.due("over an older image", x.image(0), true);
        x.again(2);
        x.again(0);
        Kit.due("as it was at the later one", x.council(0, 1), 7);
        Doc.says("false for another k.");
        for (int k : new int[] {-1, 3, Integer.MIN_VALUE, Integer.MAX_VALUE}) {
            Kit.due("image(" + k + ")", x.image(k), false);
            Kit.due("again(" + k + ")", x.again(k), false);
        }
    }

    private static void again() {
        Doc.about("Promise 30");
        Doc.says("All that is as image k has it (other images stay): true;");
        ThreePhases x = new ThreePhases();
        for (int k = 0; k < 3; k++) {
            Kit.tell(x, 0, x.count(0) == 0 ? NONE : 0, "step " + (k + 1) + ";");
            Kit.due("image(" + k + ")", x.image(k), true);
        }
        for (int k : new int[] {1, 1, 0, 2, 0}) {
            Kit.due("again(" + k + ")", x.again(k), true);
            Kit.due("as image " + k + " has it", x.council(0, 2), k + 1);
            Kit.tell(x, 0, 0, "step 4;");
            Kit.tell(x, 1, NONE, "");
            Kit.due("what is told then is no image's", x.count(1), 1);
        }
        Doc.says("false if there is none such.");
        x = Kit.with("step 3;");
        x.image(1);
        Kit.tell(x, 0, 0, "step 1;");
        for (int k : new int[] {-1, 0, 2, 3, Integer.MIN_VALUE, Integer.MAX_VALUE}) {
            Kit.due("again(" + k + ")", x.again(k), false);
            Kit.due("all stays", x.council(0, 2), 1);
        }
    }
}
