/** What DOC.md says under "Promise 16" to "Promise 28": a test for each sentence, or part of one. */
public final class WordsOfQuestionsTest {
    private static final int[] FAR = {Integer.MIN_VALUE, Integer.MAX_VALUE};

    public static void main(String[] args) throws IllegalAccessException {
        Check.runAll(WordsOfQuestionsTest.class);
    }

    /** Promise 16: "Returns how many steps there were." */
    static void steps() {
        QuorumHall x = new QuorumHall();
        Check.due("none", x.steps(), 0);
        for (int i = 1; i <= 20; i++) {
            x.pass(1);
            Check.due("steps", x.steps(), i);
        }
        Check.badArgument("one that throws", () -> x.pass(0));
        Check.due("no step", x.steps(), 20);
        x.begin(5);
        Check.due("none behind begin", x.steps(), 0);
    }

    /** Promise 17: "Returns how many messages are in the net." */
    static void messages() {
        QuorumHall x = Hall.with(5);
        Check.due("none", x.messages(), 0);
        x.stand(0);
        Check.due("four", x.messages(), 4);
        x.lose(0);
        Check.due("three", x.messages(), 3);
        Hall.fill(x, 60);
        x.stand(0);
        Check.due("sixty, and no more", x.messages(), 60);
        x.begin(5);
        Check.due("none behind begin", x.messages(), 0);
    }

    // ---- message

    /** Promise 18: "`message`: 0 for the first one in the row" */
    static void theFirstAndTheLastMessage() {
        QuorumHall x = Hall.with(5);
        x.stand(2);
        Check.due("the first", x.message(0, 2), 0);
        Check.due("the last", x.message(3, 2), 4);
        Hall.fill(x, 59);
        x.propose(1, 0, 5);
        Check.due("of sixty", x.message(59, 0), QuorumHall.PREPARE);
    }

    /** Promise 18: "`what`: 0 ASK to ACCEPTED, 1 from which machine, 2 to which, 3 its term or ballot, 4 how many entries it has" */
    static void whatIsToldOfEachKind() {
        QuorumHall x = Hall.with(3);
        x.stand(2);
        x.stand(2);
        Hall.loseTo(x, 1);
        x.lose(0);
        Check.due("ASK", Hall.message(x, 0), "0 2 0 2 0");
        x.deliver(0);
        Check.due("VOTE", Hall.message(x, 0), "1 0 2 2 0");
        x.deliver(0);
        for (int i = 1; i <= 2; i++) x.request(2, 0, i, i);
        x.beat(2);
        Check.due("APPEND", Hall.message(x, 1), "2 2 1 2 2");
        x.deliver(1);
        Check.due("ACK", Hall.message(x, 1), "3 1 2 2 0");
        Hall.loseAll(x);
        x.propose(1, 3, 999);
        x.propose(1, 3, 999);
        Check.due("PREPARE", Hall.message(x, 3), "4 1 2 9 0");
        x.deliver(3);
        Check.due("PROMISED", Hall.message(x, 3), "5 2 1 9 0");
        x.deliver(3);
        Check.due("ACCEPT", Hall.message(x, 4), "6 1 2 9 0");
        x.deliver(4);
        Check.due("ACCEPTED", Hall.message(x, 4), "7 2 1 9 0");
    }

    /** Promise 18: "4 how many entries it has" */
    static void fromNoneToThreeEntries() {
        QuorumHall x = Hall.led(3);
        for (int i = 0; i <= 5; i++) {
            if (i > 0) x.request(0, 0, i, i);
            Hall.loseAll(x);
            x.beat(0);
            Check.due("of " + i, x.message(0, 4), Math.min(i, 3));
        }
    }

    /** Promise 18: "Throws `IndexOutOfBoundsException` if there is no such message" */
    static void noSuchMessage() {
        QuorumHall x = Hall.with(3);
        Check.noEntry("none", () -> x.message(0, 0));
        x.stand(0);
        Check.noEntry("-1", () -> x.message(-1, 0));
        Check.noEntry("2 of 2", () -> x.message(2, 0));
        for (int n : FAR) Check.noEntry("far", () -> x.message(n, 0));
        for (int n : FAR) Check.noEntry("far, and what", () -> x.message(n, n));
        Hall.fill(x, 60);
        Check.noEntry("60 of 60", () -> x.message(60, 0));
    }

    /** Promise 18: "Throws `IllegalArgumentException` if what is out of range" */
    static void messageWhatOutOfRange() {
        QuorumHall x = Hall.with(3);
        x.stand(0);
        for (int n : new int[] {-1, 5, 6, Integer.MIN_VALUE, Integer.MAX_VALUE}) Check.badArgument("what " + n, () -> x.message(0, n));
    }

    // ---- of

    /** Promise 19: "`what`: 0 its role, 1 its term, 2 its vote, or NONE, 3 how many entries its log has, 4 its commit, 5 its value," */
    static void whatIsToldOfAMachine() {
        QuorumHall x = Hall.with(5);
        x.stand(4);
        x.stand(4);
        x.stand(4);
        Check.due("a CANDIDATE", x.of(4, 0) + " " + x.of(4, 1) + " " + x.of(4, 2), "1 3 4");
        Hall.deliverAll(x);
        for (int i = 1; i <= 4; i++) x.request(4, 0, i, 100 * i);
        Hall.beatAll(x, 4);
        Check.due("a LEADER", Hall.of(x, 4), "2 3 4 4 3 300 -1 1");
        Check.due("a FOLLOWER", Hall.of(x, 0), "0 3 4 3 0 0 4 1");
        Hall.beatAll(x, 4);
        Check.due("a FOLLOWER", Hall.of(x, 0), "0 3 4 4 3 300 4 1");
        x.pass(100);
        x.stand(0);
        Hall.deliverTo(x, QuorumHall.ASK, 4);
        Check.due("without a vote, as its commit is no matter", Hall.of(x, 4), "0 4 0 4 4 400 -1 1");
        x.toggle(3);
        Check.due("down", Hall.of(x, 3), "0 3 4 4 0 0 -1 0");
    }

    /** Promise 19: "2 its vote, or NONE," */
    static void noVote() {
        QuorumHall x = Hall.with(3);
        Check.due("at first", x.of(1, 2), QuorumHall.NONE);
        Hall.crash(x, 1);
        x.stand(0);
        x.deliver(0);
        Check.due("in a term in which it gave none", x.of(1, 1) + " " + x.of(1, 2), "1 -1");
        x.deliver(0);
        Check.due("for machine 0", x.of(2, 2), 0);
    }

    /** Promise 19: "6 the machine to which it has promised, itself for nobody, NONE if it has promised nothing by its clock now," */
    static void toWhomItHasPromised() {
        QuorumHall x = Hall.led(3);
        Check.due("nothing", x.of(1, 6) + " " + x.of(0, 6), "-1 -1");
        x.beat(0);
        x.deliver(0);
        Check.due("to 0", x.of(1, 6), 0);
        Check.due("not yet", x.of(2, 6), QuorumHall.NONE);
        Check.due("a LEADER to none", x.of(0, 6), QuorumHall.NONE);
        Hall.crash(x, 2);
        Check.due("to nobody", x.of(2, 6), 2);
        Hall.crash(x, 0);
        Check.due("to nobody", x.of(0, 6), 0);
        x.pass(99);
        Check.due("a little ahead of the end", x.of(0, 6) + " " + x.of(1, 6) + " " + x.of(2, 6), "0 0 2");
        x.pass(1);
        Check.due("at the end", x.of(0, 6) + " " + x.of(1, 6) + " " + x.of(2, 6), "-1 -1 -1");
    }

    /** Promise 19: "7 whether it is up, 1 or 0" */
    static void whetherItIsUp() {
        QuorumHall x = Hall.with(3);
        Check.due("up", x.of(2, 7), 1);
        x.toggle(2);
        Check.due("down", x.of(2, 7), 0);
        x.toggle(2);
        Check.due("up", x.of(2, 7), 1);
    }

    /** Promise 19: "Throws `IndexOutOfBoundsException` if there is no such machine" */
    static void ofNoMachine() {
        QuorumHall x = Hall.with(3);
        for (int n : new int[] {-1, 3, Integer.MIN_VALUE, Integer.MAX_VALUE}) {
            Check.noEntry("machine " + n, () -> x.of(n, 7));
            Check.noEntry("machine and what", () -> x.of(n, 8));
        }
    }

    /** Promise 19: "Throws `IllegalArgumentException` if what is out of range" */
    static void ofWhatOutOfRange() {
        QuorumHall x = Hall.with(3);
        for (int n : new int[] {-1, 8, 9, Integer.MIN_VALUE, Integer.MAX_VALUE}) Check.badArgument("what " + n, () -> x.of(2, n));
    }

    // ---- entry

    /** Promise 20: "`entry`: from 1" */
    static void entriesFromOne() {
        QuorumHall x = Hall.led(3);
        for (int i = 1; i <= 3; i++) x.request(0, 0, i, 10 * i);
        for (int i = 1; i <= 3; i++) Check.due("entry " + i, x.entry(0, i, 3), 10 * i);
        Check.noEntry("entry 0", () -> x.entry(0, 0, 3));
        Check.noEntry("entry 4", () -> x.entry(0, 4, 3));
    }

    /** Promise 20: "`what`: 0 its term, 1 the client, 2 the serial, 3 the value" */
    static void whatIsToldOfAnEntry() {
        QuorumHall x = Hall.with(3);
        x.stand(0);
        x.stand(0);
        Hall.deliverAll(x);
        x.request(0, 3, 98, 765);
        for (int i = 0; i < 4; i++) Check.due("what " + i, x.entry(0, 1, i), new int[] {2, 3, 98, 765}[i]);
    }

    /** Promise 20: "Throws `IndexOutOfBoundsException` if there is no such machine or entry" */
    static void noSuchEntry() {
        QuorumHall x = Hall.led(3);
        x.request(0, 0, 1, 7);
        for (int n : new int[] {-1, 3, Integer.MIN_VALUE, Integer.MAX_VALUE}) {
            Check.noEntry("machine " + n, () -> x.entry(n, 1, 0));
            Check.noEntry("entry " + n, () -> x.entry(0, n, 0));
            Check.noEntry("all", () -> x.entry(n, n, n));
        }
        Check.noEntry("entry 0", () -> x.entry(0, 0, 0));
        Check.noEntry("entry 2 of 1", () -> x.entry(0, 2, 0));
        Check.noEntry("entry 1 of none", () -> x.entry(1, 1, 0));
        Check.noEntry("entry and what", () -> x.entry(0, 2, 4));
    }

    /** Promise 20: "Throws `IndexOutOfBoundsException` if there is no such machine or entry" */
    static void anEntryThatWasCutIsNone() {
        QuorumHall x = Hall.led(3);
        for (int i = 1; i <= 3; i++) x.request(0, 0, i, i);
        Hall.cutOff(x, 0, 3);
        Hall.lead(x, 1, 0);
        x.request(1, 1, 1, 9);
        Hall.cutOff(x, 0, 3);
        Hall.beatAll(x, 1);
        Check.due("one is left", x.of(0, 3) + " " + x.entry(0, 1, 3), "1 9");
        Check.noEntry("entry 2", () -> x.entry(0, 2, 3));
    }

    /** Promise 20: "Throws `IllegalArgumentException` if what is out of range" */
    static void entryWhatOutOfRange() {
        QuorumHall x = Hall.led(3);
        x.request(0, 0, 1, 7);
        for (int n : new int[] {-1, 4, 5, Integer.MIN_VALUE, Integer.MAX_VALUE}) Check.badArgument("what " + n, () -> x.entry(0, 1, n));
    }

    // ---- clock, lease, leases

    /** Promise 21: "Returns what it shows." */
    static void clock() {
        QuorumHall x = Hall.with(3);
        Check.due("at first", x.clock(1), 0f);
        x.rate(1, 1500);
        x.pass(3);
        Check.due("as floats", x.clock(1), 0.3f * 1.5f);
        Check.due("of another", x.clock(2), 0.3f);
    }

    /** Promise 21: "Throws `IndexOutOfBoundsException` if there is no such machine" */
    static void clockOfNoMachine() {
        QuorumHall x = Hall.with(3);
        for (int n : new int[] {-1, 3, 4, Integer.MIN_VALUE, Integer.MAX_VALUE}) Check.noEntry("machine " + n, () -> x.clock(n));
    }

    /** Promise 22: "Returns the time; -1 if it has none, held or over." */
    static void lease() {
        QuorumHall x = Hall.led(3);
        Check.due("none", x.lease(0) + " " + x.lease(1), "-1.0 -1.0");
        x.pass(30);
        Hall.beatAll(x, 0);
        Check.due("held", x.lease(0) + " " + x.leases(), "13.0 1");
        x.pass(1000);
        Check.due("over", x.lease(0) + " " + x.leases(), "13.0 0");
        x.toggle(0);
        Check.due("gone", x.lease(0), -1f);
    }

    /** Promise 22: "Throws `IndexOutOfBoundsException` if there is no such machine" */
    static void leaseOfNoMachine() {
        QuorumHall x = Hall.with(3);
        for (int n : new int[] {-1, 3, 4, Integer.MIN_VALUE, Integer.MAX_VALUE}) Check.noEntry("machine " + n, () -> x.lease(n));
    }

    /** Promise 23: "Returns how many machines that are up hold a lease now." */
    static void leases() {
        QuorumHall x = Hall.twoLeases(11);
        Check.due("0 holds one", x.leases(), 1);
        Hall.agreeBesides0(x);
        Check.due("and 1", x.leases(), 2);
        x.toggle(0);
        Check.due("0 is down", x.leases(), 1);
        x.toggle(0);
        Check.due("up, but without a lease", x.leases(), 1);
        x.pass(66);
        Check.due("till 22 at 21.9", x.leases(), 1);
        x.pass(1);
        Check.due("at 22.05", x.leases(), 0);
    }

    // ---- decision

    /** Promise 24: "`decision`: 0 to 3" */
    static void decisionsFromZeroToThree() {
        QuorumHall x = Hall.with(3);
        x.propose(1, 0, 5);
        x.propose(1, 3, 5);
        Check.due("0 to 3", x.decision(1, 0, 0) + " " + x.decision(1, 1, 0) + " " + x.decision(1, 2, 0) + " " + x.decision(1, 3, 0),
            "1 -1 -1 1");
    }

    /** Promise 24: "`what`: 0 what it has promised, -1 for nothing, 1 the ballot that it accepted last, NONE, 2 the value of that, NONE, 3 the value that is decided as far as it knows, NONE" */
    static void whatIsToldOfADecision() {
        QuorumHall x = Hall.with(3);
        Check.due("nothing", Hall.decision(x, 2, 1), "-1 -1 -1 -1");
        x.propose(2, 1, 0);
        Check.due("promised", Hall.decision(x, 2, 1), "2 -1 -1 -1");
        x.deliver(0);
        x.deliver(1);
        Check.due("accepted the value 0", Hall.decision(x, 2, 1), "2 2 0 -1");
        x.deliver(1);
        Hall.deliverLast(x);
        Check.due("decided the value 0", Hall.decision(x, 2, 1), "2 2 0 0");
        x.propose(0, 1, 9);
        x.propose(0, 1, 9);
        Hall.deliverTo(x, QuorumHall.PREPARE, 2);
        Hall.deliverTo(x, QuorumHall.PREPARE, 2);
        Check.due("promised more than it accepted", Hall.decision(x, 2, 1), "16 2 0 0");
    }

    /** Promise 24: "Throws `IndexOutOfBoundsException` if there is no such machine or decision" */
    static void noSuchDecision() {
        QuorumHall x = Hall.with(3);
        for (int n : new int[] {-1, 4, Integer.MIN_VALUE, Integer.MAX_VALUE}) {
            Check.noEntry("machine " + n, () -> x.decision(n, 0, 0));
            Check.noEntry("decision " + n, () -> x.decision(0, n, 0));
            Check.noEntry("all", () -> x.decision(n, n, n));
        }
        Check.noEntry("machine 3", () -> x.decision(3, 0, 0));
    }

    /** Promise 24: "Throws `IllegalArgumentException` if what is out of range" */
    static void decisionWhatOutOfRange() {
        QuorumHall x = Hall.with(3);
        for (int n : new int[] {-1, 4, 5, Integer.MIN_VALUE, Integer.MAX_VALUE}) Check.badArgument("what " + n, () -> x.decision(0, 0, n));
    }

    // ---- acts

    /** Promise 25: "Returns how many acts there are." */
    static void acts() {
        QuorumHall x = Hall.led(3);
        Check.due("none", x.acts(), 0);
        x.request(0, 0, 2, 7);
        x.request(0, 0, 1, 7);
        x.request(0, 0, 2, 7);
        Check.due("two writes", x.acts(), 2);
        Hall.beatAll(x, 0);
        x.read(0);
        Check.due("and a read", x.acts(), 3);
        x.begin(3);
        Check.due("none behind begin", x.acts(), 0);
    }

    /** Promise 26: "`act`: from 0" */
    static void actsFromZeroInTheOrderOfTheirBeginnings() {
        QuorumHall x = Hall.led(3);
        for (int i = 0; i < 14; i++) {
            x.request(0, i % 4, 50 - i, i);
            Check.due("act " + i, x.act(i, 1), i);
        }
        for (int i = 0; i < 14; i++) Check.due("act " + i, x.act(i, 1) + " " + x.act(i, 2), i + " " + (6 + i));
    }

    /** Promise 26: "`what`: 0 1 for a write, 0 for a read, 1 its value, 2 the step at which it began, 3 that at which it was answered, NONE if it was not" */
    static void whatIsToldOfAnAct() {
        QuorumHall x = Hall.led(3);
        x.request(0, 0, 1, 765);
        Check.due("a write", x.act(0, 0) + " " + x.act(0, 1) + " " + x.act(0, 2) + " " + x.act(0, 3), "1 765 6 -1");
        Hall.beatAll(x, 0);
        Check.due("answered by the first ACK", x.act(0, 3), 10);
        x.read(0);
        Check.due("a read", x.act(1, 0) + " " + x.act(1, 1) + " " + x.act(1, 2) + " " + x.act(1, 3), "0 765 12 12");
    }

    /** Promise 26: "Throws `IndexOutOfBoundsException` if there is no such act" */
    static void noSuchAct() {
        QuorumHall x = Hall.led(3);
        Check.noEntry("none", () -> x.act(0, 0));
        x.request(0, 0, 1, 7);
        for (int n : new int[] {-1, 1, 14, Integer.MIN_VALUE, Integer.MAX_VALUE}) {
            Check.noEntry("act " + n, () -> x.act(n, 0));
            Check.noEntry("act and what", () -> x.act(n, 4));
        }
        for (int i = 2; i <= 14; i++) x.request(0, 0, i, i);
        Check.due("act 13 of 14", x.act(13, 1), 14);
        Check.noEntry("act 14 of 14", () -> x.act(14, 0));
        x.begin(3);
        Check.noEntry("none behind begin", () -> x.act(0, 0));
    }

    /** Promise 26: "Throws `IllegalArgumentException` if what is out of range" */
    static void actWhatOutOfRange() {
        QuorumHall x = Hall.led(3);
        x.request(0, 0, 1, 7);
        for (int n : new int[] {-1, 4, 5, Integer.MIN_VALUE, Integer.MAX_VALUE}) Check.badArgument("what " + n, () -> x.act(0, n));
    }

    // ---- the two checkers

    /** Promise 27: "Tells whether the history is in order." */
    static void isInOrder() {
        QuorumHall x = Hall.twoLeases(11);
        x.request(1, 1, 1, 22);
        Hall.agreeBesides0(x);
        Check.due("two writes", x.isInOrder(), true);
        x.read(0);
        Check.due("an older value is read", x.isInOrder(), false);
        Check.due("asked again", x.isInOrder(), false);
        x.begin(3);
        Check.due("no acts", x.isInOrder(), true);
    }

    /** Promise 28: "Tells whether no two machines know unlike decisions," */
    static void decisionsOfUnlikeNumbersMayBeUnlike() {
        QuorumHall x = Hall.with(3);
        Check.due("none is known", x.isAgreed(), true);
        for (int m = 0; m < 3; m++) {
            x.propose(m, m, 10 + m);
            Hall.deliverAll(x);
        }
        Check.due("each knows another one", x.decision(0, 0, 3) + " " + x.decision(1, 1, 3) + " " + x.decision(2, 2, 3), "10 11 12");
        Check.due("agreed", x.isAgreed(), true);
        x.propose(1, 0, 99);
        x.propose(1, 0, 99);
        Hall.deliverAll(x);
        Check.due("two know the same", x.decision(0, 0, 3) + " " + x.decision(1, 0, 3), "10 10");
        Check.due("agreed", x.isAgreed(), true);
    }

    /** Promise 28: "Tells whether no two machines know unlike decisions," */
    static void whatIsAcceptedAloneMayBeUnlike() {
        QuorumHall x = Hall.with(3);
        for (int m = 0; m < 2; m++) {
            x.propose(m, 0, 10 + m);
            Hall.deliverTo(x, QuorumHall.PREPARE, 2);
            Hall.deliverTo(x, QuorumHall.PROMISED, m);
            Hall.loseAll(x);
        }
        Check.due("accepted by one each", Hall.decision(x, 0, 0) + "," + Hall.decision(x, 1, 0), "0 0 10 -1,1 1 11 -1");
        Check.due("but no decision is known", x.isAgreed(), true);
        x.propose(1, 0, 12);
        Hall.deliverTo(x, QuorumHall.PREPARE, 2);
        Hall.deliverTo(x, QuorumHall.PROMISED, 1);
        Hall.deliverTo(x, QuorumHall.ACCEPT, 2);
        Hall.deliverTo(x, QuorumHall.ACCEPTED, 1);
        Check.due("one knows a decision, and one accepted another value", x.decision(1, 0, 3) + " " + x.decision(0, 0, 2), "11 10");
        Check.due("that is agreed too", x.isAgreed(), true);
    }

    /** Promise 28: "and no two logs have entries with one number up to both commits that are unlike in anything." */
    static void entriesBehindACommitMayBeUnlike() {
        QuorumHall x = Hall.led(3);
        x.request(0, 0, 1, 1);
        Hall.beatAll(x, 0);
        Hall.beatAll(x, 0);
        x.request(0, 0, 2, 2);
        Hall.cutOff(x, 0, 3);
        x.pass(100);
        Hall.lead(x, 1, 0);
        x.request(1, 1, 1, 9);
        Check.due("unlike entries 2", Hall.log(x, 0) + "," + Hall.log(x, 1), "1:1 1:2,1:1 2:9");
        Check.due("agreed on by none", x.of(0, 4) + " " + x.of(1, 4) + " " + x.isAgreed(), "1 1 true");
        Hall.agreeBesides0(x);
        Check.due("agreed on by two, but not up to the commit of 0", x.of(0, 4) + " " + x.of(1, 4) + " " + x.isAgreed(), "1 2 true");
    }
}
