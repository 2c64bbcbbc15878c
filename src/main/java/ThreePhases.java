import java.util.Arrays;

/**
 * Agreement among liars in three phases. COUNCILS, RUNS and REPLIES are told as texts on a tape;
 * every question is answered from what is told, by playing it anew in rows that are made once.
 */
public final class ThreePhases {

    public static final int NONE = -1;

    private static final int MISSING = -2;
    private static final int TAPE = 600;
    private static final int FED = 20;
    private static final int COUNCIL_SORT = 0;
    private static final int RUN_SORT = 1;
    private static final int REPLY_SORT = 2;
    private static final int SORTS = 3;
    private static final int TEXTS = 2;
    private static final int IMAGES = 3;
    private static final int SEATS = 7;
    private static final int ACCOUNTS = 8;
    private static final int NODES = 16;
    private static final int ORDERS = 10;
    private static final int NOTHING = 10;
    private static final int PLACES = 12;
    private static final int DEEDS = 40;
    private static final int REPLIES = 12;
    private static final int VIEWS = 9;
    private static final int WIDEST = 9;
    private static final int HUNDRED = 100;
    private static final int DRAWS = 200;
    private static final int LAST_MINUTE = 400;
    /** Later than any minute that counts, and far enough from the greatest int to add DELAYS to. */
    private static final int NEVER = 1000000;

    private static final int PROPOSE = 0;
    private static final int PREPARE = 1;
    private static final int COMMIT = 2;
    private static final int RUN = 3;
    private static final int MARK = 4;
    private static final int FETCH = 5;
    private static final int DOUBT = 6;
    private static final int VIEW = 7;
    private static final int ENTER = 8;

    private final Told told = new Told();
    private final Told[] images = new Told[IMAGES];
    private final int[] imaged = new int[IMAGES];
    private final Reader reader = new Reader();
    private final Assembly assembly = new Assembly();
    private final Timetable timetable = new Timetable();
    private final Tally tally = new Tally();
    private final Sums sums = new Sums();
    private final Merged merger = new Merged();
    private final int[] purse = new int[ACCOUNTS];

    public ThreePhases() {
        for (int k = 0; k < IMAGES; k++) {
            images[k] = new Told();
        }
    }

    public int feed(int a, int b, int c, int d, int e) {
        if (told.length + FED > TAPE) {
            return NONE;
        }
        told.write(a);
        told.write(b);
        told.write(c);
        told.write(d);
        told.write(e);
        return told.length;
    }

    public int end(int n) {
        if (n < 0 || n > told.length) {
            return NONE;
        }
        told.length = n;
        return n;
    }

    public int text(int sort, int at) {
        int length = told.length;
        // The tape is taken by every text, by one that is not read, too.
        told.length = 0;
        told.fault = 0;
        told.faultPlace = NONE;
        if (sort < 0 || sort >= SORTS) {
            return MISSING;
        }
        int slot = at == NONE ? told.sizes[sort] : at;
        if (slot < 0 || slot >= TEXTS || (at != NONE && !told.has(sort, at))) {
            return MISSING;
        }
        reader.read(told.tape, length, sort);
        told.fault = reader.fault;
        told.faultPlace = reader.faultPlace;
        if (reader.fault != 0) {
            return NONE;
        }
        told.put(sort, slot, reader);
        return slot;
    }

    public int fault(int what) {
        if (what == 0) {
            return told.fault;
        }
        return what == 1 ? told.faultPlace : NONE;
    }

    public int council(int council, int what) {
        if (!told.has(COUNCIL_SORT, council)) {
            return NONE;
        }
        Council c = told.councils[council];
        switch (what) {
            case 0: return c.faults;
            case 1: return c.window;
            case 2: return c.step;
            case 3: return c.liars;
            case 4: return c.orders;
            default: return c.detail(what);
        }
    }

    public int deed(int run, int k, int what) {
        if (!told.has(RUN_SORT, run)) {
            return MISSING;
        }
        Run r = told.runs[run];
        if (k == NONE) {
            return what == 0 ? r.size : MISSING;
        }
        return r.tell(k, what);
    }

    public int stop(int council, int run) {
        if (!told.has(COUNCIL_SORT, council) || !told.has(RUN_SORT, run)) {
            return NONE;
        }
        return assembly.follow(told.councils[council], told.runs[run], DEEDS);
    }

    public int state(int council, int run, int n, int member, int what) {
        if (!reaches(council, run, n)) {
            return MISSING;
        }
        return assembly.tell(member, what);
    }

    public int made(int council, int run, int n, int view, int what) {
        if (view < 1 || view > VIEWS || !reaches(council, run, n)) {
            return MISSING;
        }
        Merged m = assembly.views[view];
        if (what == 0) {
            return m.done ? 1 : 0;
        }
        int part = what == 1 || what == 2 ? what - 1 : what;
        if (part != what || Merged.isPlaceOf(what)) {
            return m.done ? m.tell(part) : NONE;
        }
        return MISSING;
    }

    public int unlike(int council, int run, int what) {
        if (stop(council, run) == NONE) {
            return MISSING;
        }
        switch (what) {
            case 0: return assembly.unlikePlaces();
            case 1: return assembly.alikePlaces();
            case 2: return assembly.greatestRan();
            case 3: return assembly.leastRan();
            default: return MISSING;
        }
    }

    public int quorum(int council, int what) {
        if (!told.has(COUNCIL_SORT, council)) {
            return MISSING;
        }
        Council c = told.councils[council];
        switch (what) {
            case 0: return c.quorumSize();
            case 1: return c.quorums();
            case 2: return c.clashes();
            case 3: return c.members() - Integer.bitCount(c.liars);
            default: return MISSING;
        }
    }

    public int tree(int council, int node) {
        if (!told.has(COUNCIL_SORT, council) || node < 1 || node >= NODES) {
            return NONE;
        }
        Sums.build(told.councils[council].accounts, sums.own);
        return sums.own[node];
    }

    public int differ(int council, int other, int what) {
        if (!told.has(COUNCIL_SORT, council) || !told.has(COUNCIL_SORT, other)) {
            return NONE;
        }
        copyAccounts(told.councils[council].accounts, purse);
        sums.fetch(purse, told.councils[other].accounts);
        switch (what) {
            case 0: return sums.asked;
            case 1: return sums.taken;
            case 2: return sameAccounts(purse, told.councils[other].accounts) ? 1 : 0;
            default: return NONE;
        }
    }

    public int play(int council, int member, int place, boolean low) {
        if (!told.has(COUNCIL_SORT, council) || place < 1 || place > ORDERS) {
            return NONE;
        }
        Council c = told.councils[council];
        if (!c.has(member)) {
            return NONE;
        }
        timetable.plan(c, c.window, c.liars);
        int minute = low ? timetable.lowAt(member, place) : timetable.ran[member][place];
        return minute == NEVER ? NONE : minute;
    }

    public int reply(int replies, int k, int what) {
        if (!told.has(REPLY_SORT, replies)) {
            return MISSING;
        }
        Replies r = told.replies[replies];
        if (k == NONE) {
            return what == 0 ? r.size : MISSING;
        }
        return r.tell(k, what);
    }

    public int match(int council, int replies, int what) {
        if (!tallies(council, replies)) {
            return NONE;
        }
        switch (what) {
            case 0: return tally.matchReply;
            case 1: return tally.matchResult;
            case 2: return tally.matchView;
            default: return NONE;
        }
    }

    public int suspects(int council, int replies, int what) {
        if (!tallies(council, replies)) {
            return MISSING;
        }
        if (what == 0) {
            return tally.suspectSets();
        }
        if (what == 1) {
            return tally.suspectsInAll();
        }
        return what >= 10 ? tally.suspectSet(what - 10) : MISSING;
    }

    public int drawn(int council, int seed, int n, int member, int what) {
        if (!told.has(COUNCIL_SORT, council) || n < 0 || n > DRAWS) {
            return MISSING;
        }
        assembly.draw(told.councils[council], seed, n);
        return assembly.tell(member, what);
    }

    public int merged(int council, int run, int n, int members, int what) {
        if (!reaches(council, run, n) || members <= 0) {
            return MISSING;
        }
        if (members >= 1 << told.councils[council].members()) {
            return MISSING;
        }
        assembly.merge(members, merger);
        return merger.tell(what);
    }

    public int sure(int council, int run, int n, int place, boolean lost) {
        if (!isPlace(place) || !reaches(council, run, n)) {
            return MISSING;
        }
        return lost ? assembly.lostAt(place, merger) : assembly.sureAt(place, merger);
    }

    public int after(int council, int run, int what) {
        if (stop(council, run) == NONE) {
            return MISSING;
        }
        switch (what) {
            case 0: return assembly.behindOnes();
            case 1: return assembly.stuckOnes();
            case 2: return assembly.madeViews();
            case 3: return assembly.certainPlaces();
            case 4: return assembly.words();
            case 5: return assembly.fullOnes();
            default: return MISSING;
        }
    }

    public int pace(int council, int what) {
        if (!told.has(COUNCIL_SORT, council)) {
            return MISSING;
        }
        Council c = told.councils[council];
        if (what == 3) {
            return timetable.tightest(c);
        }
        if (what == 4) {
            return timetable.spareOnes(c);
        }
        timetable.plan(c, c.window, c.liars);
        switch (what) {
            case 0: return timetable.sent;
            case 1: return timetable.quiet;
            case 2: return timetable.slowest();
            default: break;
        }
        if (what < 11 || what > 10 + ORDERS) {
            return MISSING;
        }
        int minute = timetable.doneAt(what - 10);
        return minute == NEVER ? NONE : minute;
    }

    public int behind(int council, int k, int what) {
        if (!told.has(COUNCIL_SORT, council)) {
            return NONE;
        }
        Council c = told.councils[council];
        if (k < 0 || k > c.orders) {
            return NONE;
        }
        c.runFirst(k, purse);
        if (what == 0) {
            return sums.rootOf(purse);
        }
        return what >= 10 && what < 10 + ACCOUNTS ? purse[what - 10] : NONE;
    }

    public int blind(int council, int what) {
        if (!told.has(COUNCIL_SORT, council)) {
            return MISSING;
        }
        Council c = told.councils[council];
        switch (what) {
            case 0: return blindOrders(c);
            case 1: return changedNodes(c);
            case 2: return richest(c);
            default: return MISSING;
        }
    }

    public int voices(int council, int replies, int result) {
        if (result < 0 || result >= HUNDRED || !tallies(council, replies)) {
            return NONE;
        }
        return tally.voicesOf(result);
    }

    public int lack(int council, int replies, int what) {
        if (!tallies(council, replies)) {
            return MISSING;
        }
        switch (what) {
            case 0: return tally.lacking();
            case 1: return tally.unlikeResults();
            case 2: return tally.fickle;
            default: return MISSING;
        }
    }

    public int count(int sort) {
        return sort < 0 || sort >= SORTS ? MISSING : told.sizes[sort];
    }

    public boolean image(int k) {
        if (k < 0 || k >= IMAGES) {
            return false;
        }
        images[k].take(told);
        imaged[k] = 1;
        return true;
    }

    public boolean again(int k) {
        if (k < 0 || k >= IMAGES || imaged[k] == 0) {
            return false;
        }
        told.take(images[k]);
        return true;
    }

    /** Whether there is such a STATE; the assembly is in it then. */
    private boolean reaches(int council, int run, int n) {
        if (!told.has(COUNCIL_SORT, council) || !told.has(RUN_SORT, run)) {
            return false;
        }
        return n >= 0 && assembly.follow(told.councils[council], told.runs[run], n) == n;
    }

    private boolean tallies(int council, int replies) {
        if (!told.has(COUNCIL_SORT, council) || !told.has(REPLY_SORT, replies)) {
            return false;
        }
        tally.hear(told.councils[council], told.replies[replies]);
        return true;
    }

    private int blindOrders(Council c) {
        int root = sums.rootOf(c.accounts);
        int blind = 0;
        for (int k = 0; k < c.orders; k++) {
            copyAccounts(c.accounts, purse);
            c.runOrder(k, purse);
            if (sums.rootOf(purse) == root) {
                blind |= 1 << k;
            }
        }
        return blind;
    }

    private int changedNodes(Council c) {
        c.runFirst(c.orders, purse);
        return sums.unlikeNodes(c.accounts, purse);
    }

    private int richest(Council c) {
        c.runFirst(c.orders, purse);
        int best = 0;
        for (int a = 1; a < ACCOUNTS; a++) {
            if (purse[a] > purse[best]) {
                best = a;
            }
        }
        return best;
    }

    private static boolean isPlace(int place) {
        return place >= 1 && place <= PLACES;
    }

    private static boolean hasBit(int bits, int k) {
        return (bits >> k & 1) != 0;
    }

    private static void copyAccounts(int[] from, int[] to) {
        System.arraycopy(from, 0, to, 0, ACCOUNTS);
    }

    private static boolean sameAccounts(int[] one, int[] other) {
        for (int a = 0; a < ACCOUNTS; a++) {
            if (one[a] != other[a]) {
                return false;
            }
        }
        return true;
    }

    /** All that is told, and so all that an image has. */
    static final class Told {
        final byte[] tape = new byte[TAPE];
        int length;
        int fault;
        int faultPlace = NONE;
        final int[] sizes = new int[SORTS];
        final Council[] councils = new Council[TEXTS];
        final Run[] runs = new Run[TEXTS];
        final Replies[] replies = new Replies[TEXTS];

        Told() {
            for (int k = 0; k < TEXTS; k++) {
                councils[k] = new Council();
                runs[k] = new Run();
                replies[k] = new Replies();
            }
        }

        /** Four bytes come behind the tape, the highest first; there must be room for them. */
        void write(int four) {
            for (int shift = 24; shift >= 0 && length < TAPE; shift -= 8) {
                tape[length] = (byte) (four >> shift);
                length++;
            }
        }

        boolean has(int sort, int k) {
            return sort >= 0 && sort < SORTS && k >= 0 && k < TEXTS && k < sizes[sort];
        }

        void put(int sort, int slot, Reader from) {
            if (sort < 0 || sort >= SORTS || slot < 0 || slot >= TEXTS) {
                return;
            }
            if (sort == COUNCIL_SORT) {
                councils[slot].take(from.council);
            } else if (sort == RUN_SORT) {
                runs[slot].take(from.run);
            } else {
                replies[slot].take(from.replies);
            }
            if (slot == sizes[sort]) {
                sizes[sort]++;
            }
        }

        void take(Told from) {
            System.arraycopy(from.tape, 0, tape, 0, TAPE);
            length = from.length;
            fault = from.fault;
            faultPlace = from.faultPlace;
            System.arraycopy(from.sizes, 0, sizes, 0, SORTS);
            for (int k = 0; k < TEXTS; k++) {
                councils[k].take(from.councils[k]);
                runs[k].take(from.runs[k]);
                replies[k].take(from.replies[k]);
            }
        }
    }

    /** A COUNCIL as told. */
    static final class Council {
        int faults = 1;
        int window = 4;
        int step = 2;
        int liars;
        int orders;
        final int[] accounts = new int[ACCOUNTS];
        final int[] orderAccounts = new int[ORDERS];
        final int[] orderPlus = new int[ORDERS];
        final int[][] delays = new int[SEATS][SEATS];

        void clear() {
            faults = 1;
            window = 4;
            step = 2;
            liars = 0;
            orders = 0;
            Arrays.fill(accounts, 0);
            for (int a = 0; a < SEATS; a++) {
                Arrays.fill(delays[a], 1);
            }
        }

        void take(Council from) {
            faults = from.faults;
            window = from.window;
            step = from.step;
            liars = from.liars;
            orders = from.orders;
            copyAccounts(from.accounts, accounts);
            System.arraycopy(from.orderAccounts, 0, orderAccounts, 0, ORDERS);
            System.arraycopy(from.orderPlus, 0, orderPlus, 0, ORDERS);
            for (int a = 0; a < SEATS; a++) {
                System.arraycopy(from.delays[a], 0, delays[a], 0, SEATS);
            }
        }

        void addOrder(int account, int plus) {
            if (orders < ORDERS) {
                orderAccounts[orders] = account;
                orderPlus[orders] = plus;
                orders++;
            }
        }

        int members() {
            return 3 * faults + 1;
        }

        int quorumSize() {
            return 2 * faults + 1;
        }

        boolean has(int member) {
            return member >= 0 && member < members();
        }

        boolean isHonest(int member) {
            return has(member) && !hasBit(liars, member);
        }

        boolean isQuorumSet(int set) {
            return Integer.bitCount(set) == quorumSize();
        }

        int detail(int what) {
            if (what >= 10 && what < 10 + ACCOUNTS) {
                return accounts[what - 10];
            }
            if (what >= 20 && what < 20 + orders) {
                return orderAccounts[what - 20];
            }
            if (what >= 30 && what < 30 + orders) {
                return orderPlus[what - 30];
            }
            if (what < 100 || what >= 200) {
                return NONE;
            }
            int a = (what - 100) / 10;
            int b = (what - 100) % 10;
            return a != b && has(a) && has(b) ? delays[a][b] : NONE;
        }

        int quorums() {
            int sets = 0;
            for (int set = 0; set < 1 << members(); set++) {
                if (isQuorumSet(set)) {
                    sets++;
                }
            }
            return sets;
        }

        int clashes() {
            int couples = 0;
            for (int one = 0; one < 1 << members(); one++) {
                for (int other = 0; other < one && isQuorumSet(one); other++) {
                    if (isQuorumSet(other) && (one & other & ~liars) == 0) {
                        couples++;
                    }
                }
            }
            return couples;
        }

        void runOrder(int order, int[] purse) {
            if (order >= 0 && order < orders && order < ORDERS) {
                int account = orderAccounts[order];
                purse[account] = (purse[account] + orderPlus[order]) % HUNDRED;
            }
        }

        /** The purse has what the ACCOUNTS have behind the first k ORDERS. */
        void runFirst(int k, int[] purse) {
            copyAccounts(accounts, purse);
            for (int order = 0; order < k && order < orders; order++) {
                runOrder(order, purse);
            }
        }
    }

    /** A RUN as told. */
    static final class Run {
        int size;
        final int[] kinds = new int[DEEDS];
        final int[] first = new int[DEEDS];
        final int[] second = new int[DEEDS];
        final int[] third = new int[DEEDS];

        void take(Run from) {
            size = from.size;
            System.arraycopy(from.kinds, 0, kinds, 0, DEEDS);
            System.arraycopy(from.first, 0, first, 0, DEEDS);
            System.arraycopy(from.second, 0, second, 0, DEEDS);
            System.arraycopy(from.third, 0, third, 0, DEEDS);
        }

        void add(int kind, int one, int two, int three) {
            if (size < DEEDS) {
                kinds[size] = kind;
                first[size] = one;
                second[size] = two;
                third[size] = three;
                size++;
            }
        }

        int tell(int k, int what) {
            if (k < 0 || k >= size) {
                return MISSING;
            }
            switch (what) {
                case 0: return kinds[k];
                case 1: return first[k];
                case 2: return second[k];
                case 3: return third[k];
                default: return MISSING;
            }
        }
    }

    /** A text of REPLIES as told. */
    static final class Replies {
        int size;
        final int[] members = new int[REPLIES];
        final int[] views = new int[REPLIES];
        final int[] results = new int[REPLIES];

        void take(Replies from) {
            size = from.size;
            System.arraycopy(from.members, 0, members, 0, REPLIES);
            System.arraycopy(from.views, 0, views, 0, REPLIES);
            System.arraycopy(from.results, 0, results, 0, REPLIES);
        }

        void add(int member, int view, int result) {
            if (size < REPLIES) {
                members[size] = member;
                views[size] = view;
                results[size] = result;
                size++;
            }
        }

        int tell(int k, int what) {
            if (k < 0 || k >= size) {
                return MISSING;
            }
            switch (what) {
                case 0: return members[k];
                case 1: return views[k];
                case 2: return results[k];
                default: return MISSING;
            }
        }
    }

    /** Reads a tape as a text; what it tells stays here until it is known to be without FAULT. */
    static final class Reader {
        /** Lines 0 to 6 are a COUNCIL's, 7 to 15 a RUN's, in the order of deed(), 16 is a REPLY. */
        private static final int[] FIRST_LINES = {0, 7, 16, 17};
        private static final int[] NUMBERS = {1, 1, 1, 1, 2, 2, 3, 3, 3, 3, 1, 2, 2, 1, 1, 1, 3};
        private static final int[] LEAST = {
            0, 0, 0, 1, 0, 0, 1, 0, 0, 0, 0, 0, 0, 0, 0, 0, 0, 0, 0, 0, 1,
            0, 1, 0, 0, 0, 1, 0, 0, 1, 0, 0, 0, 0, 0, 0, 0, 0, 0, 0, 0, 0, 0, 0, 0, 0, 0, 0,
            0, 0, 0};
        private static final int[] MOST = {
            2, 0, 0, 9, 0, 0, 4, 0, 0, 6, 0, 0, 7, 99, 0, 7, 99, 0, 6, 6, 9,
            6, 12, 9, 6, 6, 12, 6, 6, 12, 6, 0, 0, 6, 6, 0, 6, 6, 0, 6, 0, 0, 6, 0, 0, 6, 0, 0,
            6, 9, 99};
        private static final int FAULTS_LINE = 0;
        private static final int WINDOW_LINE = 1;
        private static final int STEP_LINE = 2;
        private static final int LIAR_LINE = 3;
        private static final int ACCOUNT_LINE = 4;
        private static final int ORDER_LINE = 5;
        private static final int DELAY_LINE = 6;
        private static final int DEED_LINE = 7;
        private static final int REPLY_LINE = 16;

        private static final int END = 0;
        private static final int WORD = 1;
        private static final int NUMBER = 2;
        private static final int SEMICOLON = 3;
        private static final int NO_TOKEN = 4;

        final Council council = new Council();
        final Run run = new Run();
        final Replies replies = new Replies();
        int fault;
        int faultPlace = NONE;
        private final byte[] bytes = new byte[TAPE];
        private int length;
        private int token;
        private int from;
        private int to;
        private int value;
        private int greatestMember;
        private final int[] numbers = new int[3];

        void read(byte[] tape, int size, int sort) {
            System.arraycopy(tape, 0, bytes, 0, TAPE);
            length = Math.min(size, TAPE);
            fault = 0;
            faultPlace = NONE;
            greatestMember = NONE;
            council.clear();
            run.size = 0;
            replies.size = 0;
            to = 0;
            next();
            for (int lines = 0; lines < TAPE && token != END; lines++) {
                if (!readLine(sort)) {
                    fault = 1;
                    faultPlace = from;
                    return;
                }
            }
            if (greatestMember >= council.members()) {
                note(4, length);
            }
        }

        /** Only the first FAULT stays: lines are read in the order of their places. */
        private void note(int sign, int place) {
            if (fault == 0) {
                fault = sign;
                faultPlace = place;
            }
        }

        private boolean readLine(int sort) {
            int line = lineOf(sort);
            if (line == NONE) {
                return false;
            }
            if (isFull(line)) {
                note(3, from);
            }
            next();
            Arrays.fill(numbers, NONE);
            for (int k = 0; k < NUMBERS[line]; k++) {
                if (token != NUMBER) {
                    return false;
                }
                numbers[k] = value;
                if (!mayBe(line, k)) {
                    note(2, from);
                }
                next();
            }
            if (token != SEMICOLON) {
                return false;
            }
            if (fault == 0) {
                keep(line);
            }
            next();
            return true;
        }

        private int lineOf(int sort) {
            if (token == WORD && sort >= 0 && sort < SORTS) {
                for (int line = FIRST_LINES[sort]; line < FIRST_LINES[sort + 1]; line++) {
                    if (isWord(wordOf(line))) {
                        return line;
                    }
                }
            }
            return NONE;
        }

        private static String wordOf(int line) {
            switch (line) {
                case FAULTS_LINE: return "faults";
                case WINDOW_LINE: return "window";
                case STEP_LINE: return "step";
                case LIAR_LINE: return "liar";
                case ACCOUNT_LINE: return "account";
                case ORDER_LINE: return "order";
                case DELAY_LINE: return "delay";
                case DEED_LINE + PROPOSE: return "propose";
                case DEED_LINE + PREPARE: return "prepare";
                case DEED_LINE + COMMIT: return "commit";
                case DEED_LINE + RUN: return "run";
                case DEED_LINE + MARK: return "mark";
                case DEED_LINE + FETCH: return "fetch";
                case DEED_LINE + DOUBT: return "doubt";
                case DEED_LINE + VIEW: return "view";
                case DEED_LINE + ENTER: return "enter";
                default: return "reply";
            }
        }

        private boolean isWord(String word) {
            if (word.length() != to - from) {
                return false;
            }
            for (int k = 0; k < word.length(); k++) {
                if (bytes[from + k] != word.charAt(k)) {
                    return false;
                }
            }
            return true;
        }

        private boolean isFull(int line) {
            if (line == ORDER_LINE) {
                return council.orders == ORDERS;
            }
            if (line == REPLY_LINE) {
                return replies.size == REPLIES;
            }
            return line >= DEED_LINE && run.size == DEEDS;
        }

        private boolean mayBe(int line, int k) {
            int number = numbers[k];
            if (number < LEAST[3 * line + k] || number > MOST[3 * line + k]) {
                return false;
            }
            return k != 1 || !tellsTwoMembers(line) || number != numbers[0];
        }

        private static boolean tellsTwoMembers(int line) {
            switch (line) {
                case DELAY_LINE:
                case DEED_LINE + PREPARE:
                case DEED_LINE + COMMIT:
                case DEED_LINE + MARK:
                case DEED_LINE + FETCH:
                    return true;
                default:
                    return false;
            }
        }

        private void keep(int line) {
            int one = numbers[0];
            int two = numbers[1];
            int three = numbers[2];
            if (line == REPLY_LINE) {
                replies.add(one, two, three);
                return;
            }
            switch (line) {
                case FAULTS_LINE:
                    council.faults = one;
                    break;
                case WINDOW_LINE:
                    council.window = one;
                    break;
                case STEP_LINE:
                    council.step = one;
                    break;
                case LIAR_LINE:
                    council.liars |= 1 << one;
                    greatestMember = Math.max(greatestMember, one);
                    break;
                case ACCOUNT_LINE:
                    council.accounts[one] = two;
                    break;
                case ORDER_LINE:
                    council.addOrder(one, two);
                    break;
                case DELAY_LINE:
                    council.delays[one][two] = three;
                    council.delays[two][one] = three;
                    greatestMember = Math.max(greatestMember, Math.max(one, two));
                    break;
                default:
                    run.add(line - DEED_LINE, one, two, three);
                    break;
            }
        }

        private void next() {
            int at = to;
            while (at < length && (bytes[at] == 32 || bytes[at] == 10)) {
                at++;
            }
            from = at;
            to = at;
            if (at >= length) {
                token = END;
            } else if (isLetter(bytes[at])) {
                readWord();
            } else if (isDigit(bytes[at])) {
                readNumber();
            } else {
                token = bytes[at] == ';' ? SEMICOLON : NO_TOKEN;
                to = at + 1;
            }
        }

        private void readWord() {
            while (to < length && isLetter(bytes[to])) {
                to++;
            }
            token = WORD;
        }

        private void readNumber() {
            value = 0;
            while (to < length && isDigit(bytes[to])) {
                value = (value * 10 + bytes[to] - '0') % 1000;
                to++;
            }
            token = to - from > 2 ? NO_TOKEN : NUMBER;
        }

        private static boolean isLetter(byte b) {
            return b >= 'a' && b <= 'z';
        }

        private static boolean isDigit(byte b) {
            return b >= '0' && b <= '9';
        }
    }

    /** Trees of SUMS of ACCOUNTS, and how ACCOUNTS are fetched by them. */
    static final class Sums {
        final int[] own = new int[NODES];
        final int[] other = new int[NODES];
        int asked;
        int taken;

        static void build(int[] accounts, int[] nodes) {
            for (int a = 0; a < ACCOUNTS; a++) {
                nodes[ACCOUNTS + a] = accounts[a];
            }
            for (int k = ACCOUNTS - 1; k >= 1; k--) {
                nodes[k] = (31 * nodes[2 * k] + 17 * nodes[2 * k + 1] + 7) % 9973;
            }
        }

        int rootOf(int[] accounts) {
            build(accounts, own);
            return own[1];
        }

        int unlikeNodes(int[] mine, int[] theirs) {
            build(mine, own);
            build(theirs, other);
            int unlike = 0;
            for (int k = 1; k < NODES; k++) {
                if (own[k] != other[k]) {
                    unlike++;
                }
            }
            return unlike;
        }

        void fetch(int[] mine, int[] theirs) {
            build(mine, own);
            build(theirs, other);
            asked = 0;
            taken = 0;
            // A node comes behind the one above it, so one pass by rising number asks for all.
            int wanted = 1 << 1;
            for (int k = 1; k < NODES; k++) {
                if (!hasBit(wanted, k)) {
                    continue;
                }
                asked++;
                if (own[k] == other[k]) {
                    continue;
                }
                if (k < ACCOUNTS) {
                    wanted |= 3 << 2 * k;
                } else {
                    taken |= 1 << k - ACCOUNTS;
                    mine[k - ACCOUNTS] = theirs[k - ACCOUNTS];
                }
            }
        }
    }

    /** What PROOFS merge into: a VIEW that was MADE, or one as if it were. */
    static final class Merged {
        boolean done;
        int from;
        int upto;
        final int[] orders = new int[PLACES + 1];
        private final int[] proofViews = new int[PLACES + 1];

        void clear() {
            done = false;
            from = 0;
            upto = 0;
            Arrays.fill(orders, NOTHING);
            Arrays.fill(proofViews, NONE);
        }

        void add(Member member) {
            from = Math.max(from, member.low);
            upto = Math.max(upto, from);
            for (int s = 1; s <= PLACES; s++) {
                int view = member.proofViews[s];
                int order = member.proofOrders[s];
                if (view == NONE) {
                    continue;
                }
                upto = Math.max(upto, s);
                if (view > proofViews[s] || (view == proofViews[s] && order < orders[s])) {
                    proofViews[s] = view;
                    orders[s] = order;
                }
            }
        }

        int orderAt(int place) {
            return isPlace(place) && place > from && place <= upto ? orders[place] : NONE;
        }

        static boolean isPlaceOf(int what) {
            return what > 10 && what <= 10 + PLACES;
        }

        int tell(int what) {
            if (what == 0) {
                return from;
            }
            if (what == 1) {
                return upto;
            }
            return isPlaceOf(what) ? orderAt(what - 10) : MISSING;
        }
    }

    /** What one MEMBER has in a RUN. */
    static final class Member {
        int view;
        boolean active;
        int low;
        int ran;
        int asked;
        int checkpoint;
        int quorumSize;
        int window;
        final int[] accounts = new int[ACCOUNTS];
        final int[] savedAccounts = new int[ACCOUNTS];
        final int[] accepted = new int[PLACES + 1];
        final int[] prepares = new int[PLACES + 1];
        final int[] commits = new int[PLACES + 1];
        final int[] proofViews = new int[PLACES + 1];
        final int[] proofOrders = new int[PLACES + 1];
        final int[] ranOrders = new int[PLACES + 1];
        final int[] votePlaces = new int[SEATS];
        final int[] voteRoots = new int[SEATS];

        void begin(Council council) {
            view = 0;
            active = true;
            low = 0;
            ran = 0;
            asked = 0;
            checkpoint = NONE;
            quorumSize = council.quorumSize();
            window = council.window;
            copyAccounts(council.accounts, accounts);
            forgetAccepted(PLACES);
            Arrays.fill(proofViews, NONE);
            Arrays.fill(proofOrders, NONE);
            Arrays.fill(ranOrders, NONE);
            Arrays.fill(votePlaces, NONE);
            Arrays.fill(voteRoots, NONE);
        }

        void forgetAccepted(int upto) {
            for (int s = 1; s <= upto && s <= PLACES; s++) {
                accepted[s] = NONE;
                prepares[s] = 0;
                commits[s] = 0;
            }
        }

        void forgetProofs(int upto) {
            for (int s = 1; s <= upto && s <= PLACES; s++) {
                proofViews[s] = NONE;
                proofOrders[s] = NONE;
            }
        }

        boolean isWithin(int place) {
            return isPlace(place) && place > low && place <= low + window;
        }

        boolean hasAccepted(int place) {
            return place >= 1 && place <= PLACES && accepted[place] != NONE;
        }

        void accept(int place, int order) {
            if (isPlace(place)) {
                accepted[place] = order;
                prepares[place] = 0;
                commits[place] = 0;
            }
        }

        boolean isPrepared(int place) {
            return hasAccepted(place) && Integer.bitCount(prepares[place]) >= quorumSize;
        }

        boolean isCommitted(int place) {
            return isPrepared(place) && Integer.bitCount(commits[place]) >= quorumSize;
        }

        /** A PLACE that is PREPARED becomes the PROOF, and this MEMBER one of its COMMITS. */
        void addPrepares(int place, int bits, int self) {
            if (!hasAccepted(place)) {
                return;
            }
            prepares[place] |= bits;
            if (Integer.bitCount(prepares[place]) >= quorumSize) {
                proofViews[place] = view;
                proofOrders[place] = accepted[place];
                commits[place] |= 1 << self;
            }
        }

        boolean sharesAt(Member other, int place) {
            return active && view == other.view && hasAccepted(place)
                && accepted[place] == other.accepted[place];
        }

        /** If a QUORUM of VOTES are alike above LOW, the log is cut there. */
        void countVotes() {
            for (int a = 0; a < SEATS; a++) {
                int alike = 0;
                for (int b = 0; b < SEATS; b++) {
                    if (votePlaces[b] == votePlaces[a] && voteRoots[b] == voteRoots[a]) {
                        alike++;
                    }
                }
                if (votePlaces[a] > low && alike >= quorumSize) {
                    low = votePlaces[a];
                    forgetAccepted(low);
                    forgetProofs(low);
                }
            }
        }

        int tell(int what) {
            switch (what) {
                case 0: return view;
                case 1: return active ? 1 : 0;
                case 2: return low;
                case 3: return ran;
                case 5: return asked;
                case 6: return checkpoint;
                default: break;
            }
            if (what >= 10 && what < 10 + ACCOUNTS) {
                return accounts[what - 10];
            }
            int place = what / 100;
            return what >= 100 && isPlace(place) ? tellPlace(place, what % 100) : MISSING;
        }

        private int tellPlace(int place, int what) {
            switch (what) {
                case 0: return accepted[place];
                case 1: return prepares[place];
                case 2: return commits[place];
                case 3: return isPrepared(place) ? 1 : 0;
                case 4: return isCommitted(place) ? 1 : 0;
                case 5: return proofViews[place];
                case 6: return proofOrders[place];
                case 7: return ranOrders[place];
                default: return MISSING;
            }
        }
    }

    /** The MEMBERS of a COUNCIL, as DEEDS go on. */
    static final class Assembly {
        final Merged[] views = new Merged[VIEWS + 1];
        private final Council council = new Council();
        private final Member[] members = new Member[SEATS];
        private final Sums sums = new Sums();
        private int seats = 1;
        private int quorumSize = 1;
        private int draws;

        Assembly() {
            for (int m = 0; m < SEATS; m++) {
                members[m] = new Member();
            }
            for (int v = 0; v <= VIEWS; v++) {
                views[v] = new Merged();
            }
        }

        private void begin(Council told) {
            council.take(told);
            seats = council.members();
            quorumSize = council.quorumSize();
            for (int m = 0; m < SEATS; m++) {
                members[m].begin(council);
            }
            for (int v = 0; v <= VIEWS; v++) {
                views[v].clear();
            }
        }

        private boolean isSeat(int m) {
            return m >= 0 && m < seats;
        }

        private boolean isHonest(int m) {
            return m >= 0 && m < seats && (council.liars >> m & 1) == 0;
        }

        /** The first n DEEDS are done, up to the first that can't be: how many were. */
        int follow(Council told, Run run, int n) {
            begin(told);
            for (int k = 0; k < n && k < run.size; k++) {
                if (!act(run.kinds[k], run.first[k], run.second[k], run.third[k])) {
                    return k;
                }
            }
            return Math.min(n, run.size);
        }

        void draw(Council told, int seed, int n) {
            begin(told);
            draws = seed;
            for (int k = 0; k < n && k < DRAWS; k++) {
                int sort = below(10);
                int a = below(seats);
                int b = seats > 1 ? (a + 1 + below(seats - 1)) % seats : 0;
                int place = 1 + below(PLACES);
                if (sort < 2) {
                    act(PROPOSE, a, place, below(10));
                } else {
                    act(drawnKind(sort, sort == 8 ? below(4) : 0), a, b, place);
                }
            }
        }

        private int below(int n) {
            draws = draws * 1103515245 + 12345;
            return n > 0 ? (draws >>> 16) % n : 0;
        }

        /** Of all numbers but those of propose, which takes an ORDER. */
        private static int drawnKind(int sort, int more) {
            switch (sort) {
                case 2:
                case 3: return PREPARE;
                case 4:
                case 5: return COMMIT;
                case 6: return RUN;
                case 7: return MARK;
                case 9: return ENTER;
                default: break;
            }
            if (more == 0) {
                return FETCH;
            }
            return more == 1 ? DOUBT : VIEW;
        }

        /** Does a DEED, if it may be: whether it was done. */
        private boolean act(int kind, int a, int b, int c) {
            if (!isSeat(a)) {
                return false;
            }
            switch (kind) {
                case PROPOSE: return propose(a, b, c);
                case RUN: return runOn(a);
                case DOUBT: return doubt(members[a]);
                case VIEW: return makeView(a);
                case ENTER: return enterMade(a);
                default: break;
            }
            // What takes two MEMBERS: the second one takes something in, and must be HONEST.
            if (a == b || !isHonest(b)) {
                return false;
            }
            switch (kind) {
                case PREPARE: return prepare(a, b, c);
                case COMMIT: return commit(a, b, c);
                case MARK: return mark(a, b);
                case FETCH: return fetch(a, b);
                default: return false;
            }
        }

        private int primaryOf(int view) {
            return seats > 0 ? view % seats : 0;
        }

        private boolean propose(int m, int place, int order) {
            Member self = members[m];
            if (!isHonest(m) || !self.active || order < 0 || order >= council.orders) {
                return false;
            }
            if (!self.isWithin(place) || self.hasAccepted(place)) {
                return false;
            }
            int primary = primaryOf(self.view);
            Member head = members[primary];
            if (primary != m && isHonest(primary)) {
                if (!head.active || head.view != self.view || head.accepted[place] != order) {
                    return false;
                }
            }
            self.accept(place, order);
            self.addPrepares(place, 1 << m | 1 << primary, m);
            return true;
        }

        private boolean prepare(int a, int b, int place) {
            Member self = members[b];
            if (!self.active || !self.hasAccepted(place) || hasBit(self.prepares[place], a)) {
                return false;
            }
            if (isHonest(a) && !members[a].sharesAt(self, place)) {
                return false;
            }
            self.addPrepares(place, 1 << a, b);
            return true;
        }

        private boolean commit(int a, int b, int place) {
            Member self = members[b];
            if (!self.active || !self.hasAccepted(place) || hasBit(self.commits[place], a)) {
                return false;
            }
            Member other = members[a];
            if (isHonest(a) && !(other.sharesAt(self, place) && other.isPrepared(place))) {
                return false;
            }
            self.commits[place] |= 1 << a;
            return true;
        }

        private boolean runOn(int m) {
            Member self = members[m];
            if (!isHonest(m) || !self.isCommitted(self.ran + 1)) {
                return false;
            }
            for (int s = self.ran + 1; s <= PLACES && self.isCommitted(s); s++) {
                int order = self.accepted[s];
                council.runOrder(order, self.accounts);
                self.ranOrders[s] = order;
                self.ran = s;
                if (council.step > 0 && s % council.step == 0) {
                    checkpoint(m);
                    self.countVotes();
                }
            }
            return true;
        }

        private void checkpoint(int m) {
            Member self = members[m];
            self.checkpoint = self.ran;
            copyAccounts(self.accounts, self.savedAccounts);
            self.votePlaces[m] = self.checkpoint;
            self.voteRoots[m] = sums.rootOf(self.savedAccounts);
        }

        private boolean mark(int a, int b) {
            Member self = members[b];
            Member voter = isHonest(a) ? members[a] : self;
            // No CHECKPOINT is NONE, which is below any LOW.
            if (voter.checkpoint <= self.low) {
                return false;
            }
            int root = sums.rootOf(voter.savedAccounts);
            if (self.votePlaces[a] == voter.checkpoint && self.voteRoots[a] == root) {
                return false;
            }
            self.votePlaces[a] = voter.checkpoint;
            self.voteRoots[a] = root;
            self.countVotes();
            return true;
        }

        private boolean fetch(int a, int b) {
            Member self = members[a];
            Member other = members[b];
            if (!isHonest(a) || self.ran >= self.low || other.checkpoint != self.low) {
                return false;
            }
            sums.fetch(self.accounts, other.savedAccounts);
            self.asked += sums.asked;
            self.ran = self.low;
            checkpoint(a);
            return true;
        }

        private boolean doubt(Member self) {
            if (self.view >= VIEWS) {
                return false;
            }
            self.view++;
            self.active = false;
            self.forgetAccepted(PLACES);
            return true;
        }

        private boolean makeView(int m) {
            int view = members[m].view;
            if (members[m].active || primaryOf(view) != m || views[view].done) {
                return false;
            }
            int waiting = 0;
            for (int k = 0; k < seats; k++) {
                if (!members[k].active && members[k].view == view) {
                    waiting |= 1 << k;
                }
            }
            if (Integer.bitCount(waiting) < quorumSize) {
                return false;
            }
            merge(waiting, views[view]);
            views[view].done = true;
            for (int k = 0; k < seats; k++) {
                if (hasBit(waiting, k)) {
                    enter(k);
                }
            }
            return true;
        }

        private boolean enterMade(int m) {
            if (members[m].active || !views[members[m].view].done) {
                return false;
            }
            enter(m);
            return true;
        }

        private void enter(int m) {
            Member self = members[m];
            Merged made = views[self.view];
            self.active = true;
            if (self.low < made.from) {
                self.low = made.from;
                self.forgetProofs(self.low);
            }
            if (!isHonest(m)) {
                return;
            }
            int both = 1 << m | 1 << primaryOf(self.view);
            for (int s = made.from + 1; s <= made.upto && s <= PLACES; s++) {
                if (self.isWithin(s)) {
                    self.accept(s, made.orders[s]);
                    self.addPrepares(s, both, m);
                }
            }
        }

        /** LIARS tell no PROOFS and LOW 0, which is as if they were not asked. */
        void merge(int set, Merged into) {
            into.clear();
            for (int m = 0; m < seats; m++) {
                if (hasBit(set, m) && isHonest(m)) {
                    into.add(members[m]);
                }
            }
        }

        int tell(int member, int what) {
            if (!isSeat(member)) {
                return MISSING;
            }
            return what == 4 ? sums.rootOf(members[member].accounts) : members[member].tell(what);
        }

        /** How many HONEST ones RUN this ORDER at a PLACE themselves. */
        private int runners(int place, int order) {
            int runners = 0;
            for (int m = 0; m < seats; m++) {
                if (isHonest(m) && members[m].ranOrders[place] == order) {
                    runners++;
                }
            }
            return runners;
        }

        int unlikePlaces() {
            int places = 0;
            for (int s = 1; s <= PLACES; s++) {
                int unlike = 0;
                for (int order = 0; order <= NOTHING; order++) {
                    if (runners(s, order) > 0) {
                        unlike++;
                    }
                }
                if (unlike > 1) {
                    places |= 1 << s;
                }
            }
            return places;
        }

        int alikePlaces() {
            int places = 0;
            for (int s = 1; s <= PLACES; s++) {
                for (int order = 0; order <= NOTHING; order++) {
                    if (runners(s, order) > council.faults) {
                        places |= 1 << s;
                    }
                }
            }
            return places;
        }

        int greatestRan() {
            int greatest = 0;
            for (int m = 0; m < seats; m++) {
                if (isHonest(m)) {
                    greatest = Math.max(greatest, members[m].ran);
                }
            }
            return greatest;
        }

        int leastRan() {
            int least = PLACES + 1;
            for (int m = 0; m < seats; m++) {
                if (isHonest(m)) {
                    least = Math.min(least, members[m].ran);
                }
            }
            return least > PLACES ? 0 : least;
        }

        /** Whether MERGED of a set says something about a PLACE; it is in the merger then. */
        private boolean counts(int set, int place, Merged merger) {
            if (!council.isQuorumSet(set) || (set & ~council.liars) == 0) {
                return false;
            }
            merge(set, merger);
            return merger.from < place;
        }

        int sureAt(int place, Merged merger) {
            int sure = MISSING;
            for (int set = 0; set < 1 << seats; set++) {
                if (!counts(set, place, merger)) {
                    continue;
                }
                int order = merger.orderAt(place);
                if (order == NONE || (sure != MISSING && sure != order)) {
                    return NONE;
                }
                sure = order;
            }
            return sure == MISSING ? NONE : sure;
        }

        int lostAt(int place, Merged merger) {
            int lost = 0;
            for (int set = 0; set < 1 << seats; set++) {
                if (counts(set, place, merger)) {
                    int order = merger.orderAt(place);
                    lost += order == NONE || order == NOTHING ? 1 : 0;
                }
            }
            return lost;
        }

        int behindOnes() {
            int bits = 0;
            for (int m = 0; m < seats; m++) {
                if (isHonest(m) && members[m].ran < members[m].low) {
                    bits |= 1 << m;
                }
            }
            return bits;
        }

        int stuckOnes() {
            int bits = 0;
            for (int m = 0; m < seats; m++) {
                if (isHonest(m) && !members[m].active) {
                    bits |= 1 << m;
                }
            }
            return bits;
        }

        int madeViews() {
            int bits = 0;
            for (int v = 1; v <= VIEWS; v++) {
                if (views[v].done) {
                    bits |= 1 << v;
                }
            }
            return bits;
        }

        int certainPlaces() {
            int places = 0;
            for (int s = 1; s <= PLACES; s++) {
                for (int m = 0; m < seats; m++) {
                    if (alikeProofs(m, s) > council.faults) {
                        places |= 1 << s;
                    }
                }
            }
            return places;
        }

        /** How many HONEST ones have the PROOF that this HONEST one has. */
        private int alikeProofs(int m, int place) {
            Member self = members[m];
            if (!isHonest(m) || self.proofViews[place] == NONE) {
                return 0;
            }
            int alike = 0;
            for (int k = 0; k < seats; k++) {
                Member other = members[k];
                if (isHonest(k) && other.proofViews[place] == self.proofViews[place]
                        && other.proofOrders[place] == self.proofOrders[place]) {
                    alike++;
                }
            }
            return alike;
        }

        int words() {
            int words = 0;
            for (int m = 0; m < seats; m++) {
                for (int s = 1; s <= PLACES && isHonest(m); s++) {
                    words += Integer.bitCount(members[m].prepares[s]);
                    words += Integer.bitCount(members[m].commits[s]);
                }
            }
            return words;
        }

        int fullOnes() {
            int bits = 0;
            for (int m = 0; m < seats; m++) {
                if (isHonest(m) && isFull(members[m])) {
                    bits |= 1 << m;
                }
            }
            return bits;
        }

        private static boolean isFull(Member self) {
            for (int s = self.low + 1; s <= PLACES && self.isWithin(s); s++) {
                if (!self.hasAccepted(s)) {
                    return false;
                }
            }
            return true;
        }
    }

    /**
     * PLAY. All that happens at a PLACE hangs on its own messages and on LOW below it alone, so the
     * minutes are found PLACE by PLACE, each as the QUORUM-th of those in which its messages come.
     */
    static final class Timetable {
        final int[][] ran = new int[SEATS][ORDERS + 1];
        int sent;
        int quiet;
        private final int[][] accepted = new int[SEATS][ORDERS + 1];
        private final int[][] prepared = new int[SEATS][ORDERS + 1];
        private final int[][] cut = new int[SEATS][ORDERS + 1];
        private final int[] row = new int[SEATS];
        private final Council council = new Council();

        /** Plays a COUNCIL with another WINDOW and other LIARS than it may have. */
        void plan(Council told, int window, int liars) {
            council.take(told);
            council.window = window;
            council.liars = liars;
            sent = 0;
            quiet = NONE;
            for (int m = 0; m < SEATS; m++) {
                Arrays.fill(ran[m], NEVER);
                Arrays.fill(accepted[m], NEVER);
                Arrays.fill(prepared[m], NEVER);
                Arrays.fill(cut[m], NEVER);
                ran[m][0] = 0;
                accepted[m][0] = 0;
            }
            if (!council.isHonest(0)) {
                return;
            }
            for (int s = 1; s <= council.orders && s <= ORDERS; s++) {
                acceptAll(s);
                prepareAll(s);
                runAll(s);
                cutAll(s);
                sendAll(s);
            }
        }

        private static int bounded(int minute) {
            return minute > LAST_MINUTE ? NEVER : minute;
        }

        private void acceptAll(int s) {
            int first = Math.max(s - 1, accepted[0][s - 1]);
            accepted[0][s] = bounded(Math.max(first, lowAt(0, s - council.window)));
            for (int m = 1; m < council.members(); m++) {
                if (council.isHonest(m)) {
                    int comes = accepted[0][s] + council.delays[0][m];
                    accepted[m][s] = bounded(Math.max(comes, lowAt(m, s - council.window)));
                }
            }
        }

        /** What 0 proposes is its PREPARE too: nobody ACCEPTS before that has come. */
        private void prepareAll(int s) {
            for (int m = 0; m < council.members(); m++) {
                fillRow(accepted, m, s);
                if (council.isHonest(m)) {
                    prepared[m][s] = bounded(Math.max(accepted[m][s], quorumth()));
                }
            }
        }

        private void runAll(int s) {
            for (int m = 0; m < council.members(); m++) {
                fillRow(prepared, m, s);
                if (council.isHonest(m)) {
                    int committed = Math.max(prepared[m][s], quorumth());
                    ran[m][s] = bounded(Math.max(committed, ran[m][s - 1]));
                }
            }
        }

        private boolean isCheckpoint(int s) {
            return council.step > 0 && s % council.step == 0;
        }

        private void cutAll(int s) {
            for (int m = 0; m < council.members() && isCheckpoint(s); m++) {
                fillRow(ran, m, s);
                if (council.isHonest(m)) {
                    cut[m][s] = bounded(Math.max(ran[m][s], quorumth()));
                }
            }
        }

        /** The row has the minutes in which what all sent in these minutes comes to a MEMBER. */
        private void fillRow(int[][] minutes, int to, int s) {
            Arrays.fill(row, NEVER);
            for (int m = 0; m < council.members(); m++) {
                row[m] = minutes[m][s] + (m == to ? 0 : council.delays[m][to]);
            }
        }

        private int quorumth() {
            return least(council.quorumSize());
        }

        /** The least minute by which so many of the row have come. */
        private int least(int many) {
            int best = NEVER;
            for (int a = 0; a < SEATS; a++) {
                int come = 0;
                for (int b = 0; b < SEATS; b++) {
                    if (row[b] <= row[a]) {
                        come++;
                    }
                }
                if (come >= many) {
                    best = Math.min(best, row[a]);
                }
            }
            return best;
        }

        /** The first minute in which LOW of a MEMBER is this PLACE or above. */
        int lowAt(int member, int place) {
            if (place <= 0) {
                return 0;
            }
            int first = NEVER;
            for (int s = place; s <= ORDERS && member >= 0 && member < SEATS; s++) {
                first = Math.min(first, cut[member][s]);
            }
            return first;
        }

        private void sendAll(int s) {
            for (int m = 0; m < council.members(); m++) {
                send(m, accepted[m][s]);
                send(m, prepared[m][s]);
                if (isCheckpoint(s)) {
                    send(m, ran[m][s]);
                }
            }
        }

        private void send(int from, int minute) {
            for (int to = 0; to < council.members() && minute <= LAST_MINUTE; to++) {
                if (to == from || !council.isHonest(to)) {
                    continue;
                }
                sent++;
                int comes = minute + council.delays[from][to];
                if (comes <= LAST_MINUTE) {
                    quiet = Math.max(quiet, comes);
                }
            }
        }

        int doneAt(int place) {
            Arrays.fill(row, NEVER);
            for (int m = 0; m < SEATS && place >= 1 && place <= ORDERS; m++) {
                row[m] = ran[m][place];
            }
            return least(council.faults + 1);
        }

        int slowest() {
            int slowest = NONE;
            int longest = NONE;
            for (int s = 1; s <= council.orders && s <= ORDERS; s++) {
                int minute = doneAt(s);
                if (minute == NEVER) {
                    return NONE;
                }
                if (minute - (s - 1) > longest) {
                    longest = minute - (s - 1);
                    slowest = s;
                }
            }
            return slowest;
        }

        int tightest(Council told) {
            plan(told, WIDEST, told.liars);
            int best = doneAt(told.orders);
            if (told.orders == 0 || best == NEVER) {
                return NONE;
            }
            for (int window = 1; window < WIDEST; window++) {
                plan(told, window, told.liars);
                if (doneAt(told.orders) == best) {
                    return window;
                }
            }
            return WIDEST;
        }

        int spareOnes(Council told) {
            int bits = 0;
            for (int m = 0; m < told.members() && told.orders > 0; m++) {
                plan(told, told.window, told.liars | 1 << m);
                if (doneAt(told.orders) != NEVER) {
                    bits |= 1 << m;
                }
            }
            return bits;
        }
    }

    /** What REPLIES tell a COUNCIL. */
    static final class Tally {
        int matchReply;
        int matchResult;
        int matchView;
        int fickle;
        private int faults;
        private int seats;
        private final int[] views = new int[SEATS];
        private final int[] results = new int[SEATS];

        void hear(Council council, Replies replies) {
            matchReply = NONE;
            matchResult = NONE;
            matchView = NONE;
            fickle = 0;
            faults = council.faults;
            seats = council.members();
            Arrays.fill(views, NONE);
            Arrays.fill(results, NONE);
            for (int k = 0; k < replies.size; k++) {
                int member = replies.members[k];
                if (council.has(member)) {
                    hearOne(member, replies.views[k], replies.results[k]);
                    noteMatch(k, replies.results[k]);
                }
            }
        }

        private void hearOne(int member, int view, int result) {
            if (results[member] != NONE && results[member] != result) {
                fickle |= 1 << member;
            }
            views[member] = view;
            results[member] = result;
        }

        private void noteMatch(int k, int result) {
            int bits = voicesOf(result);
            if (matchReply != NONE || Integer.bitCount(bits) <= faults) {
                return;
            }
            matchReply = k;
            matchResult = result;
            for (int m = 0; m < seats; m++) {
                if (hasBit(bits, m)) {
                    matchView = Math.max(matchView, views[m]);
                }
            }
        }

        int voicesOf(int result) {
            int bits = 0;
            for (int m = 0; m < seats; m++) {
                if (results[m] == result) {
                    bits |= 1 << m;
                }
            }
            return bits;
        }

        private boolean isSuspect(int set) {
            if (Integer.bitCount(set) > faults) {
                return false;
            }
            int one = NONE;
            for (int m = 0; m < seats; m++) {
                if (hasBit(set, m) || results[m] == NONE) {
                    continue;
                }
                if (one != NONE && one != results[m]) {
                    return false;
                }
                one = results[m];
            }
            return true;
        }

        int suspectSets() {
            int sets = 0;
            for (int set = 0; set < 1 << seats; set++) {
                if (isSuspect(set)) {
                    sets++;
                }
            }
            return sets;
        }

        int suspectsInAll() {
            int all = NONE;
            for (int set = 0; set < 1 << seats; set++) {
                if (isSuspect(set)) {
                    all &= set;
                }
            }
            return all == NONE ? 0 : all;
        }

        /** The k-th set, rising. */
        int suspectSet(int k) {
            int sets = 0;
            for (int set = 0; set < 1 << seats; set++) {
                if (!isSuspect(set)) {
                    continue;
                }
                if (sets == k) {
                    return set;
                }
                sets++;
            }
            return MISSING;
        }

        int lacking() {
            int most = 0;
            for (int m = 0; m < seats; m++) {
                if (results[m] != NONE) {
                    most = Math.max(most, Integer.bitCount(voicesOf(results[m])));
                }
            }
            return Math.max(0, faults + 1 - most);
        }

        int unlikeResults() {
            int unlike = 0;
            for (int m = 0; m < seats; m++) {
                // A RESULT is counted at the first MEMBER that tells it.
                if (results[m] != NONE && (voicesOf(results[m]) & (1 << m) - 1) == 0) {
                    unlike++;
                }
            }
            return unlike;
        }
    }
}
