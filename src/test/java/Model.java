import java.util.ArrayList;
import java.util.Arrays;
import java.util.List;
import java.util.Map;
import java.util.Set;
import java.util.TreeMap;
import java.util.TreeSet;

/** The document's rules of DEEDS once more, written with sets and maps and no thought of speed. */
final class Model {
    static final int NOTHING = 10;

    /** A VOTE or a CHECKPOINT: a PLACE and ACCOUNTS (of a VOTE, their ROOT alone counts). */
    record Mark(int place, List<Integer> accounts) {
        boolean alike(Mark other) {
            return place == other.place && root(accounts) == root(other.accounts);
        }
    }

    record Proof(int view, int order) {
    }

    record MadeView(int from, int upto, Map<Integer, Integer> orders) {
    }

    static final class Entry {
        int order;
        Set<Integer> prepares = new TreeSet<>();
        Set<Integer> commits = new TreeSet<>();
    }

    final class Peer {
        final int id;
        int view = 0;
        boolean active = true;
        int low = 0;
        int ran = 0;
        int asked = 0;
        List<Integer> accounts;
        Map<Integer, Entry> log = new TreeMap<>();
        Map<Integer, Proof> proofs = new TreeMap<>();
        Map<Integer, Integer> runs = new TreeMap<>();
        Mark checkpoint = null;
        Map<Integer, Mark> votes = new TreeMap<>();

        Peer(int id) {
            this.id = id;
            accounts = new ArrayList<>(told);
        }

        boolean honest() {
            return !liars.contains(id);
        }

        boolean prepared(int s) {
            return log.containsKey(s) && log.get(s).prepares.size() >= quorum;
        }

        boolean committed(int s) {
            return prepared(s) && log.get(s).commits.size() >= quorum;
        }

        void acceptNow(int s, int o) {
            Entry e = new Entry();
            e.order = o;
            e.prepares.add(view % peers.length);
            e.prepares.add(id);
            log.put(s, e);
            look(s);
        }

        void look(int s) {
            if (prepared(s)) {
                proofs.put(s, new Proof(view, log.get(s).order));
                log.get(s).commits.add(id);
            }
        }

        void cut() {
            for (Mark v : new ArrayList<>(votes.values())) {
                long alike = votes.values().stream().filter(v::alike).count();
                if (alike >= quorum && v.place > low) {
                    low = v.place;
                    log.keySet().removeIf(s -> s <= low);
                    proofs.keySet().removeIf(s -> s <= low);
                }
            }
        }
    }

    final int faults;
    final int quorum;
    final int window;
    final int step;
    final Set<Integer> liars;
    final List<Integer> told;
    final int[][] orders;
    final Peer[] peers;
    final Map<Integer, MadeView> views = new TreeMap<>();

    Model(int faults, int window, int step, Set<Integer> liars, List<Integer> accounts, int[][] orders) {
        this.faults = faults;
        this.quorum = 2 * faults + 1;
        this.window = window;
        this.step = step;
        this.liars = liars;
        this.told = accounts;
        this.orders = orders;
        this.peers = new Peer[3 * faults + 1];
        for (int m = 0; m < peers.length; m++) {
            peers[m] = new Peer(m);
        }
    }

    String text() {
        StringBuilder b = new StringBuilder();
        b.append("faults ").append(faults).append(";window ").append(window).append(";step ").append(step).append(";");
        for (int liar : liars) {
            b.append("liar ").append(liar).append(";");
        }
        for (int a = 0; a < 8; a++) {
            b.append("account ").append(a).append(" ").append(told.get(a)).append(";");
        }
        for (int[] order : orders) {
            b.append("order ").append(order[0]).append(" ").append(order[1]).append(";");
        }
        return b.toString();
    }

    static int root(List<Integer> accounts) {
        return sum(accounts, 1);
    }

    static int sum(List<Integer> accounts, int node) {
        if (node >= 8) {
            return accounts.get(node - 8);
        }
        return (31 * sum(accounts, 2 * node) + 17 * sum(accounts, 2 * node + 1) + 7) % 9973;
    }

    /** Asks for a node, and below it if it is unlike: how many SUMS. */
    static int fetch(List<Integer> own, List<Integer> mine, List<Integer> theirs, int node) {
        if (sum(own, node) == sum(theirs, node)) {
            return 1;
        }
        if (node >= 8) {
            mine.set(node - 8, theirs.get(node - 8));
            return 1;
        }
        return 1 + fetch(own, mine, theirs, 2 * node) + fetch(own, mine, theirs, 2 * node + 1);
    }

    boolean is(int m) {
        return m >= 0 && m < peers.length;
    }

    boolean act(int kind, int a, int b, int c) {
        switch (kind) {
            case 0: return is(a) && propose(peers[a], b, c);
            case 1: return is(a) && is(b) && a != b && prepare(peers[a], peers[b], c);
            case 2: return is(a) && is(b) && a != b && commit(peers[a], peers[b], c);
            case 3: return is(a) && run(peers[a]);
            case 4: return is(a) && is(b) && a != b && mark(peers[a], peers[b]);
            case 5: return is(a) && is(b) && a != b && fetch(peers[a], peers[b]);
            case 6: return is(a) && doubt(peers[a]);
            case 7: return is(a) && view(peers[a]);
            default: return is(a) && enter(peers[a]);
        }
    }

    private boolean propose(Peer m, int s, int o) {
        if (o >= orders.length || !m.honest() || !m.active || m.log.containsKey(s)) {
            return false;
        }
        if (s <= m.low || s > m.low + window) {
            return false;
        }
        Peer p = peers[m.view % peers.length];
        boolean told = p.active && p.view == m.view && p.log.containsKey(s) && p.log.get(s).order == o;
        if (!(!p.honest() || p == m || told)) {
            return false;
        }
        m.acceptNow(s, o);
        return true;
    }

    private boolean alike(Peer a, Peer b, int s) {
        return a.active && a.view == b.view && a.log.containsKey(s) && a.log.get(s).order == b.log.get(s).order;
    }

    private boolean prepare(Peer a, Peer b, int s) {
        if (!b.honest() || !b.active || !b.log.containsKey(s) || b.log.get(s).prepares.contains(a.id)) {
            return false;
        }
        if (a.honest() && !alike(a, b, s)) {
            return false;
        }
        b.log.get(s).prepares.add(a.id);
        b.look(s);
        return true;
    }

    private boolean commit(Peer a, Peer b, int s) {
        if (!b.honest() || !b.active || !b.log.containsKey(s) || b.log.get(s).commits.contains(a.id)) {
            return false;
        }
        if (a.honest() && !(alike(a, b, s) && a.prepared(s))) {
            return false;
        }
        b.log.get(s).commits.add(a.id);
        return true;
    }

    private boolean run(Peer m) {
        if (!m.honest() || !m.committed(m.ran + 1)) {
            return false;
        }
        while (m.committed(m.ran + 1)) {
            int s = m.ran + 1;
            int o = m.log.get(s).order;
            if (o != NOTHING) {
                m.accounts.set(orders[o][0], (m.accounts.get(orders[o][0]) + orders[o][1]) % 100);
            }
            m.ran = s;
            m.runs.put(s, o);
            if (s % step == 0) {
                m.checkpoint = new Mark(s, new ArrayList<>(m.accounts));
                m.votes.put(m.id, m.checkpoint);
                m.cut();
            }
        }
        return true;
    }

    private boolean mark(Peer a, Peer b) {
        if (!b.honest()) {
            return false;
        }
        Mark vote = a.honest() ? a.checkpoint : b.checkpoint;
        if (vote == null || vote.place <= b.low) {
            return false;
        }
        if (b.votes.containsKey(a.id) && b.votes.get(a.id).alike(vote)) {
            return false;
        }
        b.votes.put(a.id, vote);
        b.cut();
        return true;
    }

    private boolean fetch(Peer a, Peer b) {
        if (!a.honest() || !b.honest() || a.ran >= a.low || b.checkpoint == null || b.checkpoint.place != a.low) {
            return false;
        }
        a.asked += fetch(new ArrayList<>(a.accounts), a.accounts, b.checkpoint.accounts, 1);
        a.ran = a.low;
        a.checkpoint = new Mark(a.low, new ArrayList<>(a.accounts));
        return true;
    }

    private boolean doubt(Peer m) {
        if (m.view == 9) {
            return false;
        }
        m.view++;
        m.active = false;
        m.log.clear();
        return true;
    }

    MadeView merge(Set<Integer> these) {
        int from = 0;
        int upto = 0;
        Map<Integer, Proof> best = new TreeMap<>();
        for (int k : these) {
            if (!peers[k].honest()) {
                continue;
            }
            from = Math.max(from, peers[k].low);
            for (Map.Entry<Integer, Proof> e : peers[k].proofs.entrySet()) {
                upto = Math.max(upto, e.getKey());
                best.merge(e.getKey(), e.getValue(), (x, y) ->
                    x.view != y.view ? (x.view > y.view ? x : y) : (x.order <= y.order ? x : y));
            }
        }
        upto = Math.max(upto, from);
        Map<Integer, Integer> list = new TreeMap<>();
        for (int s = from + 1; s <= upto; s++) {
            list.put(s, best.containsKey(s) ? best.get(s).order : NOTHING);
        }
        return new MadeView(from, upto, list);
    }

    private boolean view(Peer m) {
        Set<Integer> these = new TreeSet<>();
        for (Peer p : peers) {
            if (p.view == m.view && !p.active) {
                these.add(p.id);
            }
        }
        if (m.view % peers.length != m.id || m.active || views.containsKey(m.view) || these.size() < quorum) {
            return false;
        }
        views.put(m.view, merge(these));
        for (int k : these) {
            enter(peers[k]);
        }
        return true;
    }

    private boolean enter(Peer m) {
        if (m.active || !views.containsKey(m.view)) {
            return false;
        }
        MadeView v = views.get(m.view);
        m.active = true;
        if (m.low < v.from) {
            m.low = v.from;
            m.proofs.keySet().removeIf(s -> s <= v.from);
        }
        for (Map.Entry<Integer, Integer> e : v.orders.entrySet()) {
            int s = e.getKey();
            if (m.honest() && s > m.low && s <= m.low + window) {
                m.acceptNow(s, e.getValue());
            }
        }
        return true;
    }

    void draw(int seed, int n) {
        int[] x = {seed};
        for (int k = 0; k < n; k++) {
            int sort = below(x, 10);
            int a = below(x, peers.length);
            int b = peers.length == 1 ? 0 : (a + 1 + below(x, peers.length - 1)) % peers.length;
            int s = 1 + below(x, 12);
            int[] kinds = {0, 0, 1, 1, 2, 2, 3, 4, -1, 8};
            int kind = kinds[sort];
            if (sort == 8) {
                int more = below(x, 4);
                kind = more == 0 ? 5 : more == 1 ? 6 : 7;
            }
            if (kind == 0) {
                act(0, a, s, below(x, 10));
            } else {
                act(kind, a, b, s);
            }
        }
    }

    static int below(int[] x, int n) {
        x[0] = x[0] * 1103515245 + 12345;
        return (x[0] >>> 16) % n;
    }

    static int bits(Iterable<Integer> set) {
        int bits = 0;
        for (int k : set) {
            bits |= 1 << k;
        }
        return bits;
    }

    int state(int member, int what) {
        Peer p = peers[member];
        int[] first = {p.view, p.active ? 1 : 0, p.low, p.ran, root(p.accounts), p.asked,
            p.checkpoint == null ? -1 : p.checkpoint.place};
        if (what < 7) {
            return first[what];
        }
        if (what < 100) {
            return p.accounts.get(what - 10);
        }
        int s = what / 100;
        Entry e = p.log.get(s);
        Proof proof = p.proofs.get(s);
        switch (what % 100) {
            case 0: return e == null ? -1 : e.order;
            case 1: return e == null ? 0 : bits(e.prepares);
            case 2: return e == null ? 0 : bits(e.commits);
            case 3: return p.prepared(s) ? 1 : 0;
            case 4: return p.committed(s) ? 1 : 0;
            case 5: return proof == null ? -1 : proof.view;
            case 6: return proof == null ? -1 : proof.order;
            default: return p.runs.getOrDefault(s, -1);
        }
    }

    List<Peer> honest() {
        List<Peer> list = new ArrayList<>(Arrays.asList(peers));
        list.removeIf(p -> !p.honest());
        return list;
    }

    int unlike(int what) {
        int unlike = 0;
        int alike = 0;
        for (int s = 1; s <= 12; s++) {
            Map<Integer, Integer> many = new TreeMap<>();
            for (Peer p : honest()) {
                if (p.runs.containsKey(s)) {
                    many.merge(p.runs.get(s), 1, Integer::sum);
                }
            }
            unlike |= many.size() > 1 ? 1 << s : 0;
            alike |= many.values().stream().anyMatch(n -> n > faults) ? 1 << s : 0;
        }
        int most = honest().stream().mapToInt(p -> p.ran).max().orElse(0);
        int least = honest().stream().mapToInt(p -> p.ran).min().orElse(0);
        return new int[] {unlike, alike, most, least}[what];
    }

    List<Set<Integer>> quorums() {
        List<Set<Integer>> list = new ArrayList<>();
        for (int set = 0; set < 1 << peers.length; set++) {
            if (Integer.bitCount(set) == quorum) {
                list.add(membersOf(set));
            }
        }
        return list;
    }

    static Set<Integer> membersOf(int bits) {
        Set<Integer> set = new TreeSet<>();
        for (int m = 0; m < 7; m++) {
            if ((bits >> m & 1) != 0) {
                set.add(m);
            }
        }
        return set;
    }

    int sure(int s, boolean lost) {
        Set<Integer> all = new TreeSet<>();
        int lostSets = 0;
        for (Set<Integer> set : quorums()) {
            MadeView v = merge(set);
            if (liars.containsAll(set) || v.from >= s) {
                continue;
            }
            int order = v.orders.getOrDefault(s, -1);
            all.add(order);
            lostSets += order == -1 || order == NOTHING ? 1 : 0;
        }
        return lost ? lostSets : all.size() == 1 ? all.iterator().next() : -1;
    }

    int after(int what) {
        int[] answers = new int[6];
        for (int v : views.keySet()) {
            answers[2] |= 1 << v;
        }
        for (Peer p : honest()) {
            answers[0] |= p.ran < p.low ? 1 << p.id : 0;
            answers[1] |= p.active ? 0 : 1 << p.id;
            for (Entry e : p.log.values()) {
                answers[4] += e.prepares.size() + e.commits.size();
            }
            boolean full = true;
            for (int s = p.low + 1; s <= p.low + window && s <= 12; s++) {
                full &= p.log.containsKey(s);
            }
            answers[5] |= full ? 1 << p.id : 0;
            for (Map.Entry<Integer, Proof> e : p.proofs.entrySet()) {
                long alike = honest().stream().filter(q -> e.getValue().equals(q.proofs.get(e.getKey()))).count();
                answers[3] |= alike > faults ? 1 << e.getKey() : 0;
            }
        }
        return answers[what];
    }
}
