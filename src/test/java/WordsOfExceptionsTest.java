/** What DOC.md says under "Exceptions": a test for each sentence, or part of one. */
public final class WordsOfExceptionsTest {
    private static final int[] NO_MACHINE = {-1, 3, 4, 5, 31, 32, Integer.MAX_VALUE, Integer.MIN_VALUE};
    private static final int[] NO_MESSAGE = {-1, 4, 5, 59, 60, 61, Integer.MAX_VALUE, Integer.MIN_VALUE};

    public static void main(String[] args) throws IllegalAccessException {
        Check.runAll(WordsOfExceptionsTest.class);
    }

    /** Of three, 0 leads with an agreed value and holds a lease, 1 is down, four messages are there. */
    private static QuorumHall bench() {
        QuorumHall x = Hall.led(3);
        x.request(0, 1, 5, 50);
        Hall.beatAll(x, 0);
        x.read(0);
        x.request(0, 2, 6, 60);
        x.beat(0);
        x.propose(2, 1, 9);
        x.toggle(1);
        Check.due("the bench", x.messages() + " " + x.leases() + " " + x.acts(), "4 1 3");
        return x;
    }

    /** Exceptions: "IndexOutOfBoundsException: there is no such machine," */
    static void noSuchMachine() {
        QuorumHall x = bench();
        for (int m : NO_MACHINE) {
            Check.noEntry("toggle " + m, () -> x.toggle(m));
            Check.noEntry("cut one " + m, () -> x.cut(m, 0));
            Check.noEntry("cut other " + m, () -> x.cut(0, m));
            Check.noEntry("rate " + m, () -> x.rate(m, 1000));
            Check.noEntry("stand " + m, () -> x.stand(m));
            Check.noEntry("beat " + m, () -> x.beat(m));
            Check.noEntry("request " + m, () -> x.request(m, 0, 1, 1));
            Check.noEntry("read " + m, () -> x.read(m));
            Check.noEntry("propose " + m, () -> x.propose(m, 0, 1));
            Check.noEntry("of " + m, () -> x.of(m, 0));
            Check.noEntry("entry " + m, () -> x.entry(m, 1, 0));
            Check.noEntry("clock " + m, () -> x.clock(m));
            Check.noEntry("lease " + m, () -> x.lease(m));
            Check.noEntry("decision " + m, () -> x.decision(m, 0, 0));
        }
        x.begin(5);
        Check.due("of five there are these", x.clock(3) + x.clock(4), 0f);
        Check.noEntry("but not 5", () -> x.clock(5));
    }

    /** Exceptions: "IndexOutOfBoundsException: there is no such machine, message," */
    static void noSuchMessage() {
        QuorumHall x = bench();
        for (int m : NO_MESSAGE) {
            Check.noEntry("deliver " + m, () -> x.deliver(m));
            Check.noEntry("lose " + m, () -> x.lose(m));
            Check.noEntry("twice " + m, () -> x.twice(m));
            Check.noEntry("message " + m, () -> x.message(m, 0));
        }
        Check.due("the last", x.message(3, 0), QuorumHall.PREPARE);
        Hall.loseAll(x);
        Check.noEntry("none to deliver", () -> x.deliver(0));
        Check.noEntry("none to lose", () -> x.lose(0));
        Check.noEntry("none to double", () -> x.twice(0));
        Check.noEntry("none to ask", () -> x.message(0, 0));
    }

    /** Exceptions: "client, decision or entry." */
    static void noSuchClientDecisionOrEntry() {
        QuorumHall x = bench();
        for (int n : new int[] {-1, 4, 5, Integer.MAX_VALUE, Integer.MIN_VALUE}) {
            Check.noEntry("client " + n, () -> x.request(0, n, 1, 1));
            Check.noEntry("decision " + n, () -> x.decision(0, n, 0));
            Check.noEntry("propose " + n, () -> x.propose(0, n, 1));
        }
        for (int n : new int[] {-1, 0, 3, 30, 31, Integer.MAX_VALUE, Integer.MIN_VALUE, Integer.MIN_VALUE + 1}) {
            Check.noEntry("entry " + n, () -> x.entry(0, n, 0));
        }
        Check.due("the last entry", x.entry(0, 2, 3), 60);
        Check.noEntry("entry 2 of 2", () -> x.entry(2, 2, 0));
    }

    /** Exceptions: "IllegalArgumentException: another argument is out of its range." */
    static void anArgumentOutOfItsRange() {
        QuorumHall x = bench();
        for (int n : new int[] {Integer.MIN_VALUE, -1, Integer.MAX_VALUE, 1 << 16}) {
            Check.badArgument("begin " + n, () -> x.begin(n));
            Check.badArgument("rate " + n, () -> x.rate(0, n));
            Check.badArgument("span " + n, () -> x.spans(n, 0));
            Check.badArgument("bound " + n, () -> x.spans(1, n));
            Check.badArgument("pass " + n, () -> x.pass(n));
            Check.badArgument("serial " + n, () -> x.request(0, 0, n, 1));
            Check.badArgument("value " + n, () -> x.request(0, 0, 1, n));
            Check.badArgument("value " + n, () -> x.propose(0, 0, n));
            Check.badArgument("message " + n, () -> x.message(0, n));
            Check.badArgument("of " + n, () -> x.of(0, n));
            Check.badArgument("entry " + n, () -> x.entry(0, 1, n));
            Check.badArgument("decision " + n, () -> x.decision(0, 0, n));
            Check.badArgument("act " + n, () -> x.act(0, n));
        }
        Check.badArgument("cut", () -> x.cut(1, 1));
    }

    /** Exceptions: "IllegalStateException: as the method tells." */
    static void statesThatTheMethodsTell() {
        QuorumHall x = bench();
        Check.badState("deliver to one that is down", () -> x.deliver(0));
        Check.badState("stand of one that is down", () -> x.stand(1));
        Check.badState("beat of a follower", () -> x.beat(2));
        Check.badState("request to a follower", () -> x.request(2, 0, 1, 1));
        Check.badState("read of a follower", () -> x.read(2));
        Check.badState("propose of one that is down", () -> x.propose(1, 0, 1));
    }

    /** Exceptions: "If several apply, the one that is named first in the throws clause is thrown." */
    static void theFirstNamedOfSeveral() {
        QuorumHall x = bench();
        for (int m : NO_MACHINE) {
            Check.noEntry("cut from itself", () -> x.cut(m, m));
            Check.noEntry("rate", () -> x.rate(m, 0));
            Check.noEntry("request, serial", () -> x.request(m, 0, 0, 1));
            Check.noEntry("request, value of the act", () -> x.request(m, 1, 5, 51));
            Check.noEntry("propose, value", () -> x.propose(m, 0, 1000));
            Check.noEntry("of, what", () -> x.of(m, 8));
            Check.noEntry("entry, what", () -> x.entry(m, 1, 4));
            Check.noEntry("decision, what", () -> x.decision(m, 0, 4));
        }
        Check.noEntry("message, what", () -> x.message(4, 5));
        Check.noEntry("act, what", () -> x.act(3, 4));
        Check.noEntry("entry, what", () -> x.entry(0, 3, 4));
        Check.noEntry("decision, what", () -> x.decision(0, 4, 4));
        Check.noEntry("client and serial, and no leader", () -> x.request(2, 4, 0, 1));
        Check.noEntry("decision and value, and down", () -> x.propose(1, 4, 1000));
        Check.badArgument("serial, and no leader", () -> x.request(2, 0, 100, 1));
        Check.badArgument("value, and no leader", () -> x.request(2, 0, 1, 1000));
        Check.badArgument("value, and down", () -> x.request(1, 0, 1, -1));
        Check.badArgument("another value of the act, and no leader", () -> x.request(2, 1, 5, 51));
        Check.badArgument("another value of the act, and down", () -> x.request(1, 2, 6, 61));
        Check.badArgument("value, and down", () -> x.propose(1, 0, 1000));
    }

    /** Exceptions: "If several apply, the one that is named first in the throws clause is thrown." */
    static void theFirstNamedWithAFullHistory() {
        QuorumHall x = bench();
        for (int i = 10; x.acts() < 14; i++) x.request(0, 3, i, i);
        Check.noEntry("client", () -> x.request(0, 4, 1, 1));
        Check.badArgument("serial", () -> x.request(0, 0, 0, 1));
        Check.badArgument("another value of an act", () -> x.request(0, 1, 5, 51));
        Check.badState("a fifteenth act", () -> x.request(0, 0, 1, 1));
        Check.badState("a fifteenth act", () -> x.read(0));
        Check.noEntry("a read of no machine", () -> x.read(3));
    }

    /** Exceptions: "A call that throws an exception changes nothing." */
    static void aCallThatThrowsChangesNothing() {
        QuorumHall thrown = bench();
        QuorumHall left = bench();
        for (int round = 0; round < 3; round++) {
            throwAll(thrown);
            Check.due("what is told", Hall.all(thrown, 3), Hall.all(left, 3));
            for (QuorumHall x : new QuorumHall[] {thrown, left}) goOn(x, round);
            Check.due("what becomes of it", Hall.all(thrown, 3), Hall.all(left, 3));
        }
        Check.due("true time", thrown.pass(1), left.pass(1));
        Check.due("the number of machines", thrown.begin(5), 3);
    }

    /** What shows all that is kept but not told: rates, spans, cuts, votes, what is known, proposals. */
    private static void goOn(QuorumHall x, int round) {
        Hall.deliverAllBut(x, 1);
        x.pass(7);
        x.beat(0);
        Hall.deliverAllBut(x, 1);
        if (round == 1) {
            x.toggle(1);
            Hall.deliverAll(x);
            x.request(0, 0, 9, 99);
            Hall.beatAll(x, 0);
            x.read(0);
            x.propose(1, 1, 5);
            Hall.deliverAll(x);
            x.toggle(1);
        }
    }

    private static void throwAll(QuorumHall x) {
        for (int n : new int[] {-1, 1, 3, 60, Integer.MAX_VALUE, Integer.MIN_VALUE}) {
            dueAny("begin", n == 3 ? () -> x.begin(4) : () -> x.begin(n));
            if (n != 1) {
                dueAny("toggle", () -> x.toggle(n));
                dueAny("cut", () -> x.cut(n, 0));
                dueAny("cut", () -> x.cut(0, n));
                dueAny("rate", () -> x.rate(n, 500));
                dueAny("client", () -> x.request(0, n == 3 ? 4 : n, 1, 1));
                dueAny("decision", () -> x.propose(0, n == 3 ? 4 : n, 1));
                if (n != 3) {
                    dueAny("time", () -> x.pass(n == 60 ? 1001 : n));
                    dueAny("span", () -> x.spans(n == 60 ? 1001 : n, 50));
                    dueAny("bound", () -> x.spans(50, n == 60 ? 91 : n));
                    dueAny("serial", () -> x.request(0, 0, n == 60 ? 100 : n, 1));
                    dueAny("value", () -> x.request(0, 0, 2, n == 60 ? 1000 : n));
                    dueAny("proposed value", () -> x.propose(0, 0, n == 60 ? 1000 : n));
                    dueAny("deliver", () -> x.deliver(n));
                    dueAny("lose", () -> x.lose(n));
                    dueAny("twice", () -> x.twice(n));
                }
            }
            dueAny("stand", () -> x.stand(n));
            dueAny("beat", () -> x.beat(n));
            dueAny("request", () -> x.request(n, 0, 1, 1));
            dueAny("read", () -> x.read(n));
            dueAny("propose", () -> x.propose(n, 0, 1));
            dueAny("rate", () -> x.rate(0, n == 1 ? 499 : n == 3 ? 1501 : n));
        }
        dueAny("cut", () -> x.cut(2, 2));
        dueAny("another value", () -> x.request(0, 1, 5, 51));
        dueAny("stand of a leader", () -> x.stand(0));
        dueAny("beat of a follower", () -> x.beat(2));
        int place = -1;
        for (int i = 0; i < x.messages(); i++) if (x.message(i, 2) == 1) place = i;
        int down = place;
        if (down >= 0) dueAny("deliver to one that is down", () -> x.deliver(down));
    }

    private static void dueAny(String what, Check.Call call) {
        Object got = Check.thrownBy(() -> { call.run(); return "nothing"; });
        Check.due(what + " throws", got.toString().endsWith("Exception"), true);
    }
}
