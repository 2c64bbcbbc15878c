import java.util.Random;
import java.util.Set;
import java.util.TreeMap;
import java.util.TreeSet;

/** Promises 17, 18, 26, 27: what REPLIES tell. */
public final class RepliesTest {
    private static final int NONE = ThreePhases.NONE;

    public static void main(String[] args) {
        matches();
        suspects();
        voices();
        lacks();
        Random random = new Random(3);
        for (int k = 0; k < 500; k++) {
            bySeed(random);
        }
        Kit.finish("RepliesTest");
    }

    private static void matches() {
        // MEMBER 0 changes its mind, so 7 is told by one again; 5 of MEMBER 5 does not count.
        ThreePhases x = Kit.withReplies("", "reply 0 9 7;reply 0 3 8;reply 1 2 7;reply 5 9 7;reply 2 1 7;reply 3 9 7;");
        Kit.due("MATCH's REPLY", x.match(0, 0, 0), 4);
        Kit.due("MATCH's RESULT", x.match(0, 0, 1), 7);
        Kit.due("MATCH's VIEW: the last ones by then", x.match(0, 0, 2), 2);
        Kit.due("match 3", x.match(0, 0, 3), NONE);
        Kit.due("match -1", x.match(0, 0, -1), NONE);
        Kit.due("match of none", x.match(1, 0, 0), NONE);
        Kit.due("match of none", x.match(0, 1, 0), NONE);
        x = Kit.withReplies("", "reply 0 0 7;reply 0 0 7;reply 1 0 8;");
        Kit.due("one MEMBER counts once", x.match(0, 0, 0), NONE);
        Kit.due("and has no RESULT", x.match(0, 0, 1), NONE);
        Kit.due("nor VIEW", x.match(0, 0, 2), NONE);
        x = Kit.withReplies("faults 0;", "reply 1 0 7;reply 0 4 9;");
        Kit.due("FAULTS 0: the first that counts", x.match(0, 0, 0), 1);
        Kit.due("FAULTS 0: its VIEW", x.match(0, 0, 2), 4);
        x = Kit.withReplies("", "");
        Kit.due("no REPLIES", x.match(0, 0, 0), NONE);
    }

    private static void suspects() {
        ThreePhases x = Kit.withReplies("", "reply 0 0 1;reply 1 0 1;reply 2 0 2;reply 2 0 1;");
        Kit.due("all tell one in the end: any set", x.suspects(0, 0, 0), 5);
        int[] rising = {0, 1, 2, 4, 8, -2};
        for (int k = 0; k < rising.length; k++) {
            Kit.due("the set " + k, x.suspects(0, 0, 10 + k), rising[k]);
        }
        Kit.due("in all", x.suspects(0, 0, 1), 0);
        x = Kit.withReplies("", "reply 0 0 1;reply 1 0 1;reply 2 0 2;reply 3 0 2;");
        Kit.due("two against two: none", x.suspects(0, 0, 0), 0);
        Kit.due("in all of none", x.suspects(0, 0, 1), 0);
        Kit.due("the first of none", x.suspects(0, 0, 10), -2);
        x = Kit.withReplies("faults 2;", "reply 6 0 1;reply 5 0 2;reply 4 0 3;");
        Kit.due("of three two lie", x.suspects(0, 0, 0), 3);
        Kit.due("the first", x.suspects(0, 0, 10), 16 + 32);
        Kit.due("the last", x.suspects(0, 0, 12), 32 + 64);
        Kit.due("in all", x.suspects(0, 0, 1), 0);
        x = Kit.withReplies("", "reply 0 0 1;reply 1 0 2;");
        Kit.due("one of two", x.suspects(0, 0, 0), 2);
        x = Kit.withReplies("faults 0;", "reply 0 0 1;");
        Kit.due("FAULTS 0: the empty set", x.suspects(0, 0, 0), 1);
        Kit.due("FAULTS 0: the empty set", x.suspects(0, 0, 10), 0);
        for (int what : new int[] {-1, 2, 9, 11, Integer.MAX_VALUE, Integer.MIN_VALUE}) {
            Kit.due("suspects " + what, x.suspects(0, 0, what), -2);
        }
        Kit.due("suspects of none", x.suspects(1, 0, 0), -2);
        Kit.due("suspects of none", x.suspects(0, 1, 0), -2);
    }

    private static void voices() {
        ThreePhases x = Kit.withReplies("", "reply 0 0 1;reply 1 0 1;reply 0 0 2;reply 3 0 1;reply 4 0 1;");
        Kit.due("voices of 1", x.voices(0, 0, 1), 2 + 8);
        Kit.due("voices of 2", x.voices(0, 0, 2), 1);
        Kit.due("voices of 0", x.voices(0, 0, 0), 0);
        Kit.due("voices of 99", x.voices(0, 0, 99), 0);
        Kit.due("voices of 100", x.voices(0, 0, 100), NONE);
        Kit.due("voices of -1", x.voices(0, 0, -1), NONE);
        Kit.due("voices of none", x.voices(1, 0, 1), NONE);
        Kit.due("voices of none", x.voices(0, 1, 1), NONE);
    }

    private static void lacks() {
        ThreePhases x = Kit.withReplies("faults 2;", "reply 0 0 1;reply 1 0 1;reply 0 0 2;reply 0 0 1;reply 3 0 5;");
        Kit.due("LACK", x.lack(0, 0, 0), 1);
        Kit.due("SPLIT", x.lack(0, 0, 1), 2);
        Kit.due("FICKLE", x.lack(0, 0, 2), 1);
        Kit.due("lack 3", x.lack(0, 0, 3), -2);
        Kit.due("lack -1", x.lack(0, 0, -1), -2);
        Kit.due("lack of none", x.lack(1, 0, 0), -2);
        Kit.due("lack of none", x.lack(0, 1, 0), -2);
        x = Kit.withReplies("", "reply 6 0 1;reply 6 0 2;");
        Kit.due("nobody that is there replied", x.lack(0, 0, 0), 2);
        Kit.due("SPLIT of nobody", x.lack(0, 0, 1), 0);
        Kit.due("FICKLE of nobody", x.lack(0, 0, 2), 0);
        x = Kit.withReplies("", "reply 0 0 1;reply 1 0 1;reply 2 0 1;");
        Kit.due("none is wanting", x.lack(0, 0, 0), 0);
    }

    private static void bySeed(Random random) {
        int faults = random.nextInt(3);
        int all = 3 * faults + 1;
        int size = random.nextInt(13);
        int[][] told = new int[size][];
        StringBuilder text = new StringBuilder();
        for (int k = 0; k < size; k++) {
            told[k] = new int[] {random.nextInt(7), random.nextInt(10), random.nextInt(3)};
            text.append("reply " + told[k][0] + " " + told[k][1] + " " + told[k][2] + ";");
        }
        ThreePhases x = Kit.withReplies("faults " + faults + ";", text.toString());
        String name = " of faults " + faults + " " + text;
        TreeMap<Integer, int[]> last = new TreeMap<>();
        int[] match = {NONE, NONE, NONE};
        int fickle = 0;
        for (int k = 0; k < size; k++) {
            if (told[k][0] >= all) {
                continue;
            }
            int[] old = last.put(told[k][0], told[k]);
            fickle |= old != null && old[2] != told[k][2] ? 1 << told[k][0] : 0;
            for (int result = 0; result < 3 && match[0] == NONE; result++) {
                int many = 0;
                int view = NONE;
                for (int[] one : last.values()) {
                    many += one[2] == result ? 1 : 0;
                    view = one[2] == result ? Math.max(view, one[1]) : view;
                }
                match = many > faults ? new int[] {k, result, view} : match;
            }
        }
        for (int what = 0; what < 3; what++) {
            Kit.due("match " + what + name, x.match(0, 0, what), match[what]);
        }
        Set<Integer> results = new TreeSet<>();
        int most = 0;
        for (int result = 0; result < 3; result++) {
            int bits = 0;
            for (int m : last.keySet()) {
                bits |= last.get(m)[2] == result ? 1 << m : 0;
            }
            Kit.due("voices " + result + name, x.voices(0, 0, result), bits);
            most = Math.max(most, Integer.bitCount(bits));
            if (bits != 0) {
                results.add(result);
            }
        }
        Kit.due("LACK" + name, x.lack(0, 0, 0), Math.max(0, faults + 1 - most));
        Kit.due("SPLIT" + name, x.lack(0, 0, 1), results.size());
        Kit.due("FICKLE" + name, x.lack(0, 0, 2), fickle);
        int sets = 0;
        int inAll = (1 << all) - 1;
        for (int set = 0; set < 1 << all; set++) {
            Set<Integer> others = new TreeSet<>();
            for (int m : last.keySet()) {
                if ((set >> m & 1) == 0) {
                    others.add(last.get(m)[2]);
                }
            }
            if (Integer.bitCount(set) <= faults && others.size() <= 1) {
                Kit.due("suspects " + sets + name, x.suspects(0, 0, 10 + sets), set);
                sets++;
                inAll &= set;
            }
        }
        Kit.due("SUSPECTS" + name, x.suspects(0, 0, 0), sets);
        Kit.due("in all" + name, x.suspects(0, 0, 1), sets == 0 ? 0 : inAll);
    }
}
