import java.util.ArrayList;
import java.util.List;
import java.util.Random;

/** Promises 15 and 23: PLAY, by hand and against a play minute by minute. */
public final class PlayTest {
    private static final int NONE = ThreePhases.NONE;

    /** PLAY as the document tells it: messages on their way, minute by minute. */
    private static final class Clock {
        final int members;
        final int quorum;
        final int faults;
        final int window;
        final int step;
        final int liars;
        final int orders;
        final int[][] delays;
        final int[][] ran;
        final int[][] lows;
        final List<int[]> mail = new ArrayList<>();
        final boolean[][] accepted;
        final boolean[][] sentCommit;
        final int[][] prepares;
        final int[][] commits;
        final int[][] votes;
        final boolean[][] proposed;
        final int[] low;
        final int[] done;
        int sent = 0;
        int quiet = NONE;

        Clock(int faults, int window, int step, int liars, int orders, int[][] delays) {
            this.faults = faults;
            this.members = 3 * faults + 1;
            this.quorum = 2 * faults + 1;
            this.window = window;
            this.step = step;
            this.liars = liars;
            this.orders = orders;
            this.delays = delays;
            ran = new int[members][11];
            lows = new int[members][11];
            accepted = new boolean[members][11];
            sentCommit = new boolean[members][11];
            proposed = new boolean[members][11];
            prepares = new int[members][11];
            commits = new int[members][11];
            votes = new int[members][11];
            low = new int[members];
            done = new int[members];
            for (int m = 0; m < members; m++) {
                java.util.Arrays.fill(ran[m], NONE);
                java.util.Arrays.fill(lows[m], NONE);
            }
            for (int t = 0; t <= 400 && honest(0); t++) {
                minute(t);
            }
        }

        boolean honest(int m) {
            return (liars >> m & 1) == 0;
        }

        /** Sorts of messages: 0 propose, 1 prepare, 2 commit, 3 mark. */
        void send(int t, int sort, int from, int place) {
            for (int to = 0; to < members; to++) {
                if (to != from && honest(to)) {
                    sent++;
                    mail.add(new int[] {t + delays[from][to], sort, from, to, place});
                }
            }
        }

        void minute(int t) {
            for (int[] m : new ArrayList<>(mail)) {
                if (m[0] != t) {
                    continue;
                }
                mail.remove(m);
                quiet = t;
                int bit = 1 << m[2];
                switch (m[1]) {
                    case 0: proposed[m[3]][m[4]] = true; break;
                    case 1: prepares[m[3]][m[4]] |= bit; break;
                    case 2: commits[m[3]][m[4]] |= bit; break;
                    default: votes[m[3]][m[4]] |= bit; break;
                }
            }
            for (int m = 0; m < members; m++) {
                while (honest(m) && act(t, m)) {
                    continue;
                }
            }
        }

        boolean act(int t, int m) {
            for (int s = 1; s <= orders; s++) {
                boolean here = m == 0 ? t >= s - 1 && (s == 1 || accepted[0][s - 1]) : proposed[m][s];
                if (here && !accepted[m][s] && s > low[m] && s <= low[m] + window) {
                    accepted[m][s] = true;
                    prepares[m][s] |= 1 | 1 << m;
                    send(t, m == 0 ? 0 : 1, m, s);
                    return true;
                }
                if (accepted[m][s] && !sentCommit[m][s] && Integer.bitCount(prepares[m][s]) >= quorum) {
                    sentCommit[m][s] = true;
                    commits[m][s] |= 1 << m;
                    send(t, 2, m, s);
                    return true;
                }
                if (done[m] == s - 1 && sentCommit[m][s] && Integer.bitCount(commits[m][s]) >= quorum) {
                    done[m] = s;
                    ran[m][s] = t;
                    if (s % step == 0) {
                        votes[m][s] |= 1 << m;
                        send(t, 3, m, s);
                    }
                    return true;
                }
                if (s > low[m] && s <= done[m] && Integer.bitCount(votes[m][s]) >= quorum) {
                    for (int k = low[m] + 1; k <= s; k++) {
                        lows[m][k] = t;
                    }
                    low[m] = s;
                    return true;
                }
            }
            return false;
        }

        int doneAt(int place) {
            for (int t = 0; t <= 400; t++) {
                int many = 0;
                for (int m = 0; m < members; m++) {
                    many += ran[m][place] != NONE && ran[m][place] <= t ? 1 : 0;
                }
                if (many > faults) {
                    return t;
                }
            }
            return NONE;
        }
    }

    public static void main(String[] args) {
        byHand();
        edges();
        Random random = new Random(11);
        for (int k = 0; k < 400; k++) {
            bySeed(random);
        }
        Kit.finish("PlayTest");
    }

    private static void byHand() {
        // One MEMBER alone: all in no time, LOW at once.
        ThreePhases x = Kit.with("faults 0;step 1;window 1;order 0 1;order 0 1;order 0 1;");
        for (int s = 1; s <= 3; s++) {
            Kit.due("alone, RAN " + s, x.play(0, 0, s, false), s - 1);
            Kit.due("alone, LOW " + s, x.play(0, 0, s, true), s - 1);
            Kit.due("alone, DONE " + s, x.pace(0, 10 + s), s - 1);
        }
        Kit.due("alone, SENT", x.pace(0, 0), 0);
        Kit.due("alone, QUIET", x.pace(0, 1), NONE);
        Kit.due("alone, SLOWEST", x.pace(0, 2), 1);
        Kit.due("alone, TIGHT", x.pace(0, 3), 1);
        Kit.due("alone, SPARE", x.pace(0, 4), 0);
        // LOW by a CHECKPOINT at 2 came to 1, too; none at 3.
        x = Kit.with("order 0 1;order 0 1;order 0 1;");
        Kit.due("LOW 1 by step 2", x.play(0, 2, 1, true), 5);
        Kit.due("LOW 2 by step 2", x.play(0, 2, 2, true), 5);
        Kit.due("LOW 3 by step 2", x.play(0, 2, 3, true), NONE);
        Kit.due("SENT by step 2", x.pace(0, 0), 3 * 24 + 12);
        // WINDOW below STEP: nothing is ever cut, and PLACE 3 never comes.
        x = Kit.with("window 2;step 3;order 0 1;order 0 1;order 0 1;");
        Kit.due("RAN 2", x.play(0, 3, 2, false), 4);
        Kit.due("RAN 3", x.play(0, 3, 3, false), NONE);
        Kit.due("SLOWEST, one never DONE", x.pace(0, 2), NONE);
        Kit.due("TIGHT", x.pace(0, 3), 3);
        Kit.due("SPARE", x.pace(0, 4), 0);
        Kit.due("DONE 3", x.pace(0, 13), NONE);
        // A slow way: 9 minutes from 0 to 3, all others 1; 3 hears COMMITS of others first.
        x = Kit.with("delay 0 3 9;order 0 1;step 1;");
        Kit.due("RAN of the slow one", x.play(0, 3, 1, false), 9);
        Kit.due("RAN of 0", x.play(0, 0, 1, false), 3);
        Kit.due("QUIET of the slow way", x.pace(0, 1), 18);
        Kit.due("DONE of the slow way", x.pace(0, 11), 3);
    }

    private static void edges() {
        ThreePhases x = Kit.with("liar 0;order 0 1;");
        Kit.due("a lying PRIMARY", x.play(0, 1, 1, false), NONE);
        Kit.due("SENT", x.pace(0, 0), 0);
        Kit.due("QUIET", x.pace(0, 1), NONE);
        Kit.due("SLOWEST", x.pace(0, 2), NONE);
        Kit.due("TIGHT", x.pace(0, 3), NONE);
        Kit.due("SPARE", x.pace(0, 4), 0);
        x = Kit.with("liar 3;order 0 1;");
        Kit.due("a LIAR never RAN", x.play(0, 3, 1, false), NONE);
        Kit.due("others did", x.play(0, 2, 1, false), 3);
        Kit.due("SPARE of a LIAR", x.pace(0, 4), 8);
        Kit.due("SENT without a LIAR", x.pace(0, 0), 2 + 4 + 6);
        x = Kit.with("liar 3;liar 2;order 0 1;");
        Kit.due("too many LIARS", x.play(0, 1, 1, false), NONE);
        Kit.due("SENT with them", x.pace(0, 0), 2);
        Kit.due("QUIET with them", x.pace(0, 1), 2);
        x = Kit.with("");
        Kit.due("no ORDERS: SLOWEST", x.pace(0, 2), NONE);
        Kit.due("no ORDERS: TIGHT", x.pace(0, 3), NONE);
        Kit.due("no ORDERS: SPARE", x.pace(0, 4), 0);
        Kit.due("no ORDERS: DONE", x.pace(0, 11), NONE);
        Kit.due("no ORDERS: DONE 10", x.pace(0, 20), NONE);
        for (int what : new int[] {-1, 5, 9, 10, 21, 100, Integer.MIN_VALUE, Integer.MAX_VALUE}) {
            Kit.due("pace " + what, x.pace(0, what), -2);
        }
        Kit.due("pace of none", x.pace(1, 0), -2);
        x = Kit.with("order 0 1;");
        Kit.due("play of none", x.play(1, 0, 1, false), NONE);
        Kit.due("play of MEMBER 4", x.play(0, 4, 1, false), NONE);
        Kit.due("play of MEMBER -1", x.play(0, -1, 1, false), NONE);
        for (int place : new int[] {0, -1, 2, 10, 11, Integer.MAX_VALUE, Integer.MIN_VALUE}) {
            Kit.due("play at " + place, x.play(0, 0, place, false), NONE);
            Kit.due("play at " + place, x.play(0, 0, place, true), NONE);
        }
    }

    private static void bySeed(Random random) {
        int faults = random.nextInt(3);
        int all = 3 * faults + 1;
        int liars = random.nextInt(2) == 0 ? 0 : random.nextInt(1 << all) & random.nextInt(1 << all);
        int orders = random.nextInt(11);
        int window = 1 + random.nextInt(9);
        int step = 1 + random.nextInt(4);
        int[][] delays = new int[all][all];
        StringBuilder text = new StringBuilder();
        text.append("faults " + faults + ";window " + window + ";step " + step + ";");
        for (int a = 0; a < all; a++) {
            if ((liars >> a & 1) != 0) {
                text.append("liar " + a + ";");
            }
            for (int b = 0; b < a; b++) {
                delays[a][b] = random.nextInt(3) == 0 ? 1 + random.nextInt(9) : 9;
                delays[b][a] = delays[a][b];
                text.append("delay " + a + " " + b + " " + delays[a][b] + ";");
            }
        }
        text.append("order 0 1;".repeat(orders));
        ThreePhases x = Kit.with(text.toString());
        Kit.due("the COUNCIL is read: " + text, x.fault(0), 0);
        Clock clock = new Clock(faults, window, step, liars, orders, delays);
        for (int m = 0; m < all; m++) {
            for (int s = 1; s <= 10; s++) {
                Kit.due("RAN " + m + " " + s + " of " + text, x.play(0, m, s, false), clock.ran[m][s]);
                Kit.due("LOW " + m + " " + s + " of " + text, x.play(0, m, s, true), clock.lows[m][s]);
            }
        }
        Kit.due("SENT of " + text, x.pace(0, 0), clock.sent);
        Kit.due("QUIET of " + text, x.pace(0, 1), clock.quiet);
        int slowest = NONE;
        int longest = NONE;
        boolean never = false;
        for (int s = 1; s <= orders; s++) {
            int done = clock.doneAt(s);
            Kit.due("DONE " + s + " of " + text, x.pace(0, 10 + s), done);
            never |= done == NONE;
            if (done - s + 1 > longest) {
                longest = done - s + 1;
                slowest = s;
            }
        }
        Kit.due("SLOWEST of " + text, x.pace(0, 2), never ? NONE : slowest);
        int tight = NONE;
        int spare = 0;
        if (orders > 0) {
            int best = new Clock(faults, 9, step, liars, orders, delays).doneAt(orders);
            for (int w = 9; w >= 1 && best != NONE; w--) {
                tight = new Clock(faults, w, step, liars, orders, delays).doneAt(orders) == best ? w : tight;
            }
            for (int m = 0; m < all; m++) {
                Clock less = new Clock(faults, window, step, liars | 1 << m, orders, delays);
                spare |= less.doneAt(orders) == NONE ? 0 : 1 << m;
            }
        }
        Kit.due("TIGHT of " + text, x.pace(0, 3), tight);
        Kit.due("SPARE of " + text, x.pace(0, 4), spare);
    }
}
