import java.util.ArrayList;
import java.util.Arrays;
import java.util.HashMap;
import java.util.HashSet;
import java.util.List;
import java.util.Map;
import java.util.Set;
import java.util.TreeMap;

/**
 * A second bench, written from the document alone and in another way than QuorumHall: plain lists and
 * maps, nothing used again, and orders found by trying them all. The storm runs it beside the class.
 */
final class Model {
    static final int FOLLOWER = 0, CANDIDATE = 1, LEADER = 2;
    static final String[] KINDS = {"ASK", "VOTE", "APPEND", "ACK", "PREPARE", "PROMISED", "ACCEPT", "ACCEPTED"};

    record Entry(int term, int client, int serial, int value) { }

    record Message(String kind, int from, int to, int term, int number, int numberTerm, List<Entry> entries,
            int commit, float clock, boolean yes, int decision, int accepted, int value) { }

    static final class Proposal {
        int ballot, value;
        boolean goneOn;
        Map<Integer, int[]> promises = new HashMap<>();
        Set<Integer> accepts = new HashSet<>();
    }

    static final class Paper {
        int promised = -1, accepted = -1, value = -1, decided = -1;
        Proposal proposal;
    }

    static final class Machine {
        boolean up = true;
        float clock = 0f, rate = 1f;
        int role = FOLLOWER, term = 0, vote = -1, commit = 0;
        List<Entry> log = new ArrayList<>();
        Set<Integer> votes = new HashSet<>();
        Map<Integer, Integer> supposed = new HashMap<>(), known = new HashMap<>();
        Map<Integer, Float> yesClocks = new TreeMap<>();
        Float lease;
        int promisedTo = -1;
        float promisedUntil = 0f;
        Paper[] papers = {new Paper(), new Paper(), new Paper(), new Paper()};
    }

    static final class Act {
        boolean write;
        int client, serial, value, began, answered = -1;
    }

    List<Machine> machines = new ArrayList<>();
    List<Message> net = new ArrayList<>();
    Set<Set<Integer>> cuts = new HashSet<>();
    List<Act> acts = new ArrayList<>();
    float time, span, bound;
    int steps, sent;

    Model() {
        begin(3);
    }

    int begin(int count) {
        if (count != 3 && count != 5) throw new IllegalArgumentException();
        int before = machines.size();
        machines.clear();
        net.clear();
        cuts.clear();
        acts.clear();
        for (int i = 0; i < count; i++) machines.add(new Machine());
        time = 0f;
        span = 10f;
        bound = 0f;
        steps = 0;
        return before;
    }

    private Machine machine(int i) {
        if (i < 0 || i >= machines.size()) throw new IndexOutOfBoundsException();
        return machines.get(i);
    }

    private void range(int x, int low, int high) {
        if (x < low || x > high) throw new IllegalArgumentException();
    }

    private Message inNet(int i) {
        if (i < 0 || i >= net.size()) throw new IndexOutOfBoundsException();
        return net.get(i);
    }

    private boolean most(int some) {
        return 2 * some > machines.size();
    }

    private void send(Message m) {
        sent++;
        if (net.size() < 60) net.add(m);
    }

    private void step() {
        steps++;
        for (Act a : acts) {
            if (!a.write || a.answered != -1) continue;
            for (Machine m : machines) {
                for (int n = 1; n <= m.commit && m.role == LEADER; n++) {
                    Entry e = m.log.get(n - 1);
                    if (e.client == a.client && e.serial == a.serial) a.answered = steps;
                }
            }
        }
    }

    boolean toggle(int i) {
        Machine m = machine(i);
        m.up = !m.up;
        if (m.up) {
            m.promisedTo = i;
            m.promisedUntil = m.clock + span;
        } else {
            m.role = FOLLOWER;
            m.commit = 0;
            m.lease = null;
            for (Paper p : m.papers) p.proposal = null;
        }
        step();
        return m.up;
    }

    boolean cut(int a, int b) {
        machine(a);
        machine(b);
        if (a == b) throw new IllegalArgumentException();
        Set<Integer> pair = Set.of(a, b);
        boolean now = cuts.add(pair);
        if (!now) cuts.remove(pair);
        step();
        return now;
    }

    float rate(int i, int rate) {
        Machine m = machine(i);
        range(rate, 500, 1500);
        m.rate = rate / 1000f;
        step();
        return m.clock;
    }

    void spans(int s, int b) {
        range(s, 1, 1000);
        range(b, 0, 90);
        span = s / 10f;
        bound = b / 100f;
        step();
    }

    float pass(int t) {
        range(t, 1, 1000);
        float d = t / 10f;
        time += d;
        for (Machine m : machines) m.clock += d * m.rate;
        step();
        return time;
    }

    int deliver(int i) {
        Message m = inNet(i);
        Machine me = machine(m.to);
        if (!me.up || cuts.contains(Set.of(m.from, m.to))) throw new IllegalStateException();
        net.remove(i);
        sent = 0;
        if (List.of("ASK", "VOTE", "APPEND", "ACK").contains(m.kind) && m.term > me.term) {
            me.term = m.term;
            me.vote = -1;
            follow(me);
        }
        switch (m.kind) {
            case "ASK" -> ask(me, m);
            case "VOTE" -> vote(me, m);
            case "APPEND" -> append(me, m);
            case "ACK" -> ack(me, m);
            case "PREPARE" -> prepare(me, m);
            case "PROMISED" -> promised(me, m);
            case "ACCEPT" -> accept(me, m);
            default -> accepted(me, m);
        }
        step();
        return sent;
    }

    int lose(int i) {
        inNet(i);
        net.remove(i);
        step();
        return net.size();
    }

    int twice(int i) {
        send(inNet(i));
        step();
        return net.size();
    }

    private void follow(Machine me) {
        me.role = FOLLOWER;
        me.lease = null;
    }

    private boolean promises(Machine me) {
        return me.promisedTo != -1 && me.clock < me.promisedUntil;
    }

    private int termOf(Machine me, int number) {
        return number == 0 ? 0 : me.log.get(number - 1).term;
    }

    private Message plain(String kind, int from, int to, int term, int number, int numberTerm, boolean yes, float clock) {
        return new Message(kind, from, to, term, number, numberTerm, List.of(), 0, clock, yes, 0, -1, -1);
    }

    int stand(int i) {
        Machine me = machine(i);
        if (!me.up || me.role == LEADER || promises(me)) throw new IllegalStateException();
        me.term++;
        me.vote = i;
        me.role = CANDIDATE;
        me.votes = new HashSet<>(Set.of(i));
        for (int o = 0; o < machines.size(); o++) {
            if (o != i) send(plain("ASK", i, o, me.term, me.log.size(), termOf(me, me.log.size()), false, 0f));
        }
        step();
        return me.term;
    }

    private void ask(Machine me, Message m) {
        boolean yes = m.term == me.term;
        yes &= me.vote == -1 || me.vote == m.from;
        int lastTerm = termOf(me, me.log.size());
        yes &= m.numberTerm > lastTerm || m.numberTerm == lastTerm && m.number >= me.log.size();
        yes &= !(promises(me) && me.promisedTo != m.from);
        if (yes) me.vote = m.from;
        send(plain("VOTE", m.to, m.from, me.term, 0, 0, yes, 0f));
    }

    private void vote(Machine me, Message m) {
        if (me.role == CANDIDATE && m.term == me.term && m.yes) {
            me.votes.add(m.from);
            if (most(me.votes.size())) {
                me.role = LEADER;
                me.lease = null;
                me.yesClocks.clear();
                for (int o = 0; o < machines.size(); o++) {
                    me.supposed.put(o, me.log.size());
                    me.known.put(o, 0);
                }
            }
        }
    }

    int beat(int i) {
        Machine me = machine(i);
        if (!me.up || me.role != LEADER) throw new IllegalStateException();
        int total = 0;
        for (int o = 0; o < machines.size(); o++) {
            if (o == i) continue;
            int p = me.supposed.get(o);
            List<Entry> some = List.copyOf(me.log.subList(p, Math.min(p + 3, me.log.size())));
            total += some.size();
            send(new Message("APPEND", i, o, me.term, p, termOf(me, p), some, me.commit, me.clock, false, 0, -1, -1));
        }
        step();
        return total;
    }

    private void append(Machine me, Message m) {
        if (m.term < me.term) {
            send(plain("ACK", m.to, m.from, me.term, 0, 0, false, m.clock));
            return;
        }
        follow(me);
        if (m.number > me.log.size() || termOf(me, m.number) != m.numberTerm) {
            send(plain("ACK", m.to, m.from, me.term, Math.min(m.number - 1, me.log.size()), 0, false, m.clock));
            return;
        }
        int n = m.number;
        for (Entry e : m.entries) {
            n++;
            if (n <= me.log.size() && me.log.get(n - 1).term != e.term) {
                me.log = new ArrayList<>(me.log.subList(0, n - 1));
            }
            if (n > me.log.size()) me.log.add(e);
        }
        int c = Math.min(m.commit, n);
        if (c > me.commit) me.commit = c;
        me.promisedTo = m.from;
        me.promisedUntil = me.clock + span;
        send(plain("ACK", m.to, m.from, me.term, n, 0, true, m.clock));
    }

    private void ack(Machine me, Message m) {
        if (me.role != LEADER || m.term != me.term) return;
        if (!m.yes) {
            me.supposed.put(m.from, m.number);
            return;
        }
        if (m.number > me.known.get(m.from)) {
            me.known.put(m.from, m.number);
            me.supposed.put(m.from, m.number);
        }
        me.known.put(m.to, me.log.size());
        List<Integer> lengths = new ArrayList<>(me.known.values());
        lengths.sort((a, b) -> b - a);
        int n = lengths.get(machines.size() / 2);
        if (n > me.commit && termOf(me, n) == me.term) me.commit = n;
        me.yesClocks.merge(m.from, m.clock, Math::max);
        if (most(me.yesClocks.size() + 1)) {
            List<Float> clocks = new ArrayList<>(me.yesClocks.values());
            clocks.sort((a, b) -> Float.compare(b, a));
            me.lease = clocks.get(machines.size() / 2 - 1) + span * (1f - bound);
        }
    }

    private Act write(int client, int serial) {
        for (Act a : acts) if (a.write && a.client == client && a.serial == serial) return a;
        return null;
    }

    int request(int i, int client, int serial, int value) {
        Machine me = machine(i);
        if (client < 0 || client > 3) throw new IndexOutOfBoundsException();
        range(serial, 1, 99);
        range(value, 0, 999);
        Act a = write(client, serial);
        if (a != null && a.value != value) throw new IllegalArgumentException();
        if (!me.up || me.role != LEADER || me.log.size() == 30) throw new IllegalStateException();
        if (a == null && acts.size() == 14) throw new IllegalStateException();
        if (a == null) {
            a = new Act();
            a.write = true;
            a.client = client;
            a.serial = serial;
            a.value = value;
            a.began = steps + 1;
            acts.add(a);
        }
        if (me.log.stream().noneMatch(e -> e.client == client && e.serial >= serial)) {
            me.log.add(new Entry(me.term, client, serial, value));
        }
        step();
        for (int n = 1; n <= me.log.size(); n++) {
            if (me.log.get(n - 1).client == client && me.log.get(n - 1).serial == serial) return n;
        }
        return 0;
    }

    private int value(Machine me) {
        int value = 0;
        int[] greatest = new int[4];
        for (int n = 1; n <= me.commit; n++) {
            Entry e = me.log.get(n - 1);
            if (e.serial > greatest[e.client]) {
                greatest[e.client] = e.serial;
                value = e.value;
            }
        }
        return value;
    }

    private boolean holds(Machine me) {
        return me.lease != null && me.clock < me.lease;
    }

    int read(int i) {
        Machine me = machine(i);
        if (!me.up || !holds(me) || me.commit == 0 || termOf(me, me.commit) != me.term) throw new IllegalStateException();
        if (acts.size() == 14) throw new IllegalStateException();
        Act a = new Act();
        a.value = value(me);
        a.began = steps + 1;
        a.answered = steps + 1;
        acts.add(a);
        step();
        return a.value;
    }

    int propose(int i, int d, int value) {
        Machine me = machine(i);
        if (d < 0 || d > 3) throw new IndexOutOfBoundsException();
        range(value, 0, 999);
        if (!me.up) throw new IllegalStateException();
        Paper p = me.papers[d];
        int ballot = i;
        while (ballot <= p.promised) ballot += 8;
        p.promised = ballot;
        p.proposal = new Proposal();
        p.proposal.ballot = ballot;
        p.proposal.value = value;
        p.proposal.promises.put(i, new int[] {p.accepted, p.value});
        for (int o = 0; o < machines.size(); o++) {
            if (o != i) send(ballot("PREPARE", i, o, ballot, d, -1, -1));
        }
        step();
        return ballot;
    }

    private Message ballot(String kind, int from, int to, int ballot, int d, int accepted, int value) {
        return new Message(kind, from, to, ballot, 0, 0, List.of(), 0, 0f, false, d, accepted, value);
    }

    private void prepare(Machine me, Message m) {
        Paper p = me.papers[m.decision];
        if (m.term > p.promised) {
            p.promised = m.term;
            send(ballot("PROMISED", m.to, m.from, m.term, m.decision, p.accepted, p.value));
        }
    }

    private void promised(Machine me, Message m) {
        Paper p = me.papers[m.decision];
        if (p.proposal == null || p.proposal.ballot != m.term || p.promised > m.term || p.proposal.goneOn) return;
        p.proposal.promises.put(m.from, new int[] {m.accepted, m.value});
        if (!most(p.proposal.promises.size())) return;
        p.proposal.goneOn = true;
        int best = -1;
        for (int[] told : p.proposal.promises.values()) {
            if (told[0] > best) {
                best = told[0];
                p.proposal.value = told[1];
            }
        }
        p.accepted = p.proposal.ballot;
        p.value = p.proposal.value;
        p.proposal.accepts.add(m.to);
        for (int o = 0; o < machines.size(); o++) {
            if (o != m.to) send(ballot("ACCEPT", m.to, o, p.proposal.ballot, m.decision, -1, p.value));
        }
    }

    private void accept(Machine me, Message m) {
        Paper p = me.papers[m.decision];
        if (m.term >= p.promised) {
            p.promised = m.term;
            p.accepted = m.term;
            p.value = m.value;
            send(ballot("ACCEPTED", m.to, m.from, m.term, m.decision, -1, -1));
        }
    }

    private void accepted(Machine me, Message m) {
        Paper p = me.papers[m.decision];
        if (p.proposal == null || p.proposal.ballot != m.term) return;
        p.proposal.accepts.add(m.from);
        if (most(p.proposal.accepts.size())) p.decided = p.proposal.value;
    }

    int message(int i, int what) {
        Message m = inNet(i);
        range(what, 0, 4);
        return new int[] {Arrays.asList(KINDS).indexOf(m.kind), m.from, m.to, m.term, m.entries.size()}[what];
    }

    int of(int i, int what) {
        Machine m = machine(i);
        range(what, 0, 7);
        return new int[] {m.role, m.term, m.vote, m.log.size(), m.commit, value(m), promises(m) ? m.promisedTo : -1,
            m.up ? 1 : 0}[what];
    }

    int entry(int i, int n, int what) {
        Machine m = machine(i);
        if (n < 1 || n > m.log.size()) throw new IndexOutOfBoundsException();
        range(what, 0, 3);
        Entry e = m.log.get(n - 1);
        return new int[] {e.term, e.client, e.serial, e.value}[what];
    }

    float clock(int i) {
        return machine(i).clock;
    }

    float lease(int i) {
        return machine(i).lease == null ? -1f : machine(i).lease;
    }

    int leases() {
        return (int) machines.stream().filter(m -> m.up && holds(m)).count();
    }

    int decision(int i, int d, int what) {
        Machine m = machine(i);
        if (d < 0 || d > 3) throw new IndexOutOfBoundsException();
        range(what, 0, 3);
        Paper p = m.papers[d];
        return new int[] {p.promised, p.accepted, p.value, p.decided}[what];
    }

    int act(int i, int what) {
        if (i < 0 || i >= acts.size()) throw new IndexOutOfBoundsException();
        range(what, 0, 3);
        Act a = acts.get(i);
        return new int[] {a.write ? 1 : 0, a.value, a.began, a.answered}[what];
    }

    boolean isAgreed() {
        for (Machine a : machines) {
            for (Machine b : machines) {
                for (int n = 0; n < Math.min(a.commit, b.commit); n++) {
                    if (!a.log.get(n).equals(b.log.get(n))) return false;
                }
                for (int d = 0; d < 4; d++) {
                    int x = a.papers[d].decided;
                    int y = b.papers[d].decided;
                    if (x != -1 && y != -1 && x != y) return false;
                }
            }
        }
        return true;
    }

    boolean isInOrder() {
        int[][] told = new int[acts.size()][];
        for (int i = 0; i < told.length; i++) told[i] = new int[] {act(i, 0), act(i, 1), act(i, 2), act(i, 3)};
        return isInOrder(told);
    }

    /** Tries all orders, by the set of acts that came and the write that came last; an act is told as act() does. */
    static boolean isInOrder(int[][] acts) {
        int needed = 0;
        for (int i = 0; i < acts.length; i++) if (acts[i][3] != -1) needed |= 1 << i;
        int[] last = new int[1 << acts.length];
        last[0] = 1 << acts.length;
        for (int came = 0; came < 1 << acts.length; came++) {
            if (last[came] == 0) continue;
            if ((came & needed) == needed) return true;
            for (int i = 0; i < acts.length; i++) {
                if ((came >> i & 1) == 1 || !canCome(acts, came, i)) continue;
                last[came | 1 << i] |= acts[i][0] == 1 ? 1 << i : withValue(acts, last[came], acts[i][1]);
            }
        }
        return false;
    }

    /** Those of some writes that have a value; the bit behind all acts is for none, which leaves 0. */
    private static int withValue(int[][] acts, int writes, int value) {
        int some = 0;
        for (int i = 0; i <= acts.length; i++) {
            if ((writes >> i & 1) == 1 && (i == acts.length ? 0 : acts[i][1]) == value) some |= 1 << i;
        }
        return some;
    }

    private static boolean canCome(int[][] acts, int came, int next) {
        for (int i = 0; i < acts.length; i++) {
            boolean ahead = acts[i][3] != -1 && acts[i][3] < acts[next][2];
            if (ahead && (came >> i & 1) == 0) return false;
        }
        return true;
    }
}
