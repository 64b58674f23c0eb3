/** What DOC.md says under "Leaders, logs": a test for each sentence, or part of one. */
public final class WordsOfLogsTest {
    public static void main(String[] args) throws IllegalAccessException {
        Check.runAll(WordsOfLogsTest.class);
    }

    /** Machine 0 led in term 1 and crashed with so many entries, which the others have too; no promise counts. */
    private static QuorumHall agreedLog(int machines, int entries) {
        QuorumHall x = Hall.led(machines);
        for (int i = 1; i <= entries; i++) x.request(0, 0, i, i);
        for (int i = 0; i <= entries / 3; i++) Hall.beatAll(x, 0);
        for (int i = 0; i < machines; i++) Check.due("the log of " + i, x.of(i, 3), entries);
        Hall.crash(x, 0);
        x.pass(100);
        return x;
    }

    /**
     * Machine 0 leads in term 1 with so many entries, of which machine 1 has the first few and machine 2 none;
     * no promise counts.
     */
    private static QuorumHall partLog(int entries, int of1) {
        QuorumHall x = Hall.led(3);
        for (int i = 1; i <= of1; i++) x.request(0, 0, i, i);
        for (int i = 0; i < of1; i += 3) {
            x.beat(0);
            x.lose(1);
            Hall.deliverAll(x);
        }
        for (int i = of1 + 1; i <= entries; i++) x.request(0, 0, i, i);
        x.pass(100);
        Check.due("the logs", x.of(0, 3) + " " + x.of(1, 3) + " " + x.of(2, 3), entries + " " + of1 + " 0");
        return x;
    }

    /** Machine 0 crashes and leads again in the next term; no promise counts, no message is left. */
    private static void leadAnew(QuorumHall x, int machine) {
        Hall.crash(x, machine);
        x.pass(100);
        Hall.lead(x, machine, -1);
        Check.due("leads anew", x.of(machine, 0), QuorumHall.LEADER);
    }

    /** The messages that there are to that machine in an ask of it: 1 for a vote given to the one that asks. */
    private static boolean getsVote(QuorumHall x, int asking, int asked) {
        Hall.loseAll(x);
        x.stand(asking);
        Hall.deliverTo(x, QuorumHall.ASK, asked);
        return x.of(asked, 2) == asking;
    }

    // ---- what a machine has

    /** Leaders, logs: "A machine has a term, 0 at first, a vote in it, for a machine, or none, and a log of entries, numbered from 1," */
    static void termVoteAndLogAtFirst() {
        QuorumHall x = Hall.with(5);
        for (int i = 0; i < 5; i++) {
            int m = i;
            Check.due("term, vote, entries", x.of(m, 1) + " " + x.of(m, 2) + " " + x.of(m, 3), "0 -1 0");
            Check.noEntry("entry 0", () -> x.entry(m, 0, 0));
            Check.noEntry("entry 1", () -> x.entry(m, 1, 0));
        }
        x.stand(0);
        Check.due("a vote for machine 0", x.of(0, 2), 0);
        Hall.deliverAll(x);
        Check.due("the first entry is 1", x.request(0, 0, 1, 8), 1);
        Check.due("its value", x.entry(0, 1, 3), 8);
        Check.due("the second is 2", x.request(0, 0, 2, 9), 2);
        Check.due("its value", x.entry(0, 2, 3), 9);
        Check.noEntry("entry 0", () -> x.entry(0, 0, 0));
        Check.noEntry("entry 3", () -> x.entry(0, 3, 0));
    }

    /** Leaders, logs: "at most 30;" */
    static void aLogWithAsManyEntriesAsActsAllow() {
        QuorumHall x = Hall.led(3);
        for (int i = 1; i <= 14; i++) Check.due("entry " + i, x.request(0, i % 4, i, 10 + i), i);
        for (int i = 1; i <= 5; i++) Hall.beatAll(x, 0);
        for (int i = 0; i < 3; i++) Check.due("entries of " + i, x.of(i, 3) + " " + x.entry(i, 14, 3), "14 24");
    }

    /** Leaders, logs: "an entry has a term, a client, 0 to 3, a serial, 1 to 99, and a value, 0 to 999." */
    static void leastAndGreatestOfAnEntry() {
        QuorumHall x = Hall.led(3);
        x.request(0, 0, 1, 0);
        x.request(0, 3, 99, 999);
        x.request(0, 1, 99, 0);
        x.request(0, 2, 1, 999);
        String[] due = {"1 0 1 0", "1 3 99 999", "1 1 99 0", "1 2 1 999"};
        for (int i = 0; i < 4; i++) Check.due("entry " + (i + 1), entry(x, 0, i + 1), due[i]);
        Hall.beatAll(x, 0);
        Hall.beatAll(x, 0);
        for (int i = 0; i < 4; i++) Check.due("of another machine", entry(x, 2, i + 1), due[i]);
    }

    private static String entry(QuorumHall x, int machine, int entry) {
        return x.entry(machine, entry, 0) + " " + x.entry(machine, entry, 1) + " " + x.entry(machine, entry, 2) + " "
            + x.entry(machine, entry, 3);
    }

    /** Leaders, logs: "These are kept." */
    static void termVoteAndLogAreKept() {
        QuorumHall x = Hall.led(3);
        x.request(0, 0, 1, 7);
        Hall.beatAll(x, 0);
        x.request(0, 0, 2, 8);
        for (int i = 0; i < 2; i++) {
            x.toggle(0);
            Check.due("of the leader", x.of(0, 1) + " " + x.of(0, 2) + " " + x.of(0, 3), "1 0 2");
            Check.due("its log", Hall.log(x, 0), "1:7 1:8");
            x.toggle(1);
            Check.due("of a follower, which gave its vote", x.of(1, 1) + " " + x.of(1, 2) + " " + x.of(1, 3), "1 0 1");
            Check.due("its log", Hall.log(x, 1), "1:7");
        }
    }

    /** Leaders, logs: "These are kept." */
    static void aVoteIsKeptSoThatThereIsOneInATerm() {
        QuorumHall x = Hall.with(3);
        x.stand(0);
        x.stand(1);
        Hall.deliverTo(x, QuorumHall.ASK, 2);
        Check.due("for 0", x.of(2, 2), 0);
        Hall.crash(x, 2);
        x.pass(100);
        Hall.deliverTo(x, QuorumHall.ASK, 2);
        Check.due("still for 0", x.of(2, 2), 0);
        Hall.deliverLast(x);
        Check.due("1 did not get it", x.of(1, 0), QuorumHall.CANDIDATE);
    }

    /** Leaders, logs: "It is a FOLLOWER, as at first, a CANDIDATE or a LEADER;" */
    static void theRoles() {
        QuorumHall x = Hall.with(3);
        Check.due("at first", x.of(0, 0), QuorumHall.FOLLOWER);
        x.stand(0);
        Check.due("then", x.of(0, 0), QuorumHall.CANDIDATE);
        Hall.deliverAll(x);
        Check.due("then", x.of(0, 0), QuorumHall.LEADER);
        Check.due("the others", x.of(1, 0) + x.of(2, 0), 2 * QuorumHall.FOLLOWER);
    }

    /** Leaders, logs: "it knows up to which entry all is agreed, its commit, 0 at first." */
    static void commitIsZeroAtFirst() {
        QuorumHall x = Hall.led(3);
        Check.due("at first", x.of(0, 4) + x.of(1, 4) + x.of(2, 4), 0);
        x.request(0, 0, 1, 7);
        Check.due("an entry is not agreed by being there", x.of(0, 4), 0);
        Hall.beatAll(x, 0);
        Check.due("agreed", x.of(0, 4) + " " + x.of(1, 4), "1 0");
        Hall.beatAll(x, 0);
        Check.due("known by the others", x.of(1, 4) + " " + x.of(2, 4), "1 1");
    }

    /** Leaders, logs: "A machine that goes down is a FOLLOWER, with the commit 0." */
    static void downFromEachRole() {
        QuorumHall x = Hall.led(3);
        x.request(0, 0, 1, 7);
        Hall.beatAll(x, 0);
        Hall.beatAll(x, 0);
        x.toggle(0);
        Check.due("a leader, down", x.of(0, 0) + " " + x.of(0, 4) + " " + x.of(0, 5), "0 0 0");
        x.toggle(0);
        Check.due("and up again", x.of(0, 0) + " " + x.of(0, 4) + " " + x.of(0, 5), "0 0 0");
        Check.due("a follower with a commit", x.of(1, 0) + " " + x.of(1, 4), "0 1");
        x.toggle(1);
        Check.due("down", x.of(1, 0) + " " + x.of(1, 4), "0 0");
        x.toggle(1);
        Check.due("up again", x.of(1, 0) + " " + x.of(1, 4), "0 0");
        x.pass(100);
        x.stand(2);
        Check.due("a candidate with a commit", x.of(2, 0) + " " + x.of(2, 4), "1 1");
        x.toggle(2);
        Check.due("down", x.of(2, 0) + " " + x.of(2, 4), "0 0");
        x.toggle(2);
        Check.due("up again", x.of(2, 0) + " " + x.of(2, 4), "0 0");
    }

    /** Leaders, logs: "A machine that goes down is a FOLLOWER, with the commit 0." */
    static void aCandidateThatWentDownWinsNothing() {
        QuorumHall x = Hall.with(3);
        x.stand(0);
        x.deliver(0);
        x.deliver(0);
        Hall.crash(x, 0);
        Hall.deliverAll(x);
        Check.due("two votes came behind the crash", Hall.of(x, 0), "0 1 0 0 0 0 0 1");
    }

    // ---- a greater term

    /** Leaders, logs: "Whenever a machine deals with a message of a greater term than its own, it has that term then, no vote, and is a FOLLOWER." */
    static void greaterTermByAsk() {
        QuorumHall x = Hall.led(3);
        x.request(0, 0, 1, 7);
        x.stand(2);
        x.stand(2);
        Hall.deliverTo(x, QuorumHall.ASK, 0);
        Check.due("a leader with a longer log, so that it gives no vote", Hall.of(x, 0), "0 2 -1 1 0 0 -1 1");
        Hall.deliverTo(x, QuorumHall.ASK, 0);
        Check.due("again", Hall.of(x, 0), "0 3 -1 1 0 0 -1 1");
    }

    /** Leaders, logs: "Whenever a machine deals with a message of a greater term than its own, it has that term then, no vote, and is a FOLLOWER." */
    static void greaterTermByVote() {
        QuorumHall x = Hall.with(3);
        x.stand(1);
        x.stand(1);
        x.stand(0);
        x.deliver(4);
        Check.due("a VOTE of term 2", Hall.message(x, 5), "1 1 0 2 0");
        x.deliver(5);
        Check.due("the candidate of term 1", Hall.of(x, 0), "0 2 -1 0 0 0 -1 1");
    }

    /** Leaders, logs: "Whenever a machine deals with a message of a greater term than its own, it has that term then, no vote, and is a FOLLOWER." */
    static void greaterTermByAppend() {
        QuorumHall x = Hall.with(3);
        x.stand(1);
        x.lose(0);
        x.stand(0);
        x.stand(0);
        Hall.deliverTo(x, QuorumHall.ASK, 2);
        Hall.deliverTo(x, QuorumHall.ASK, 2);
        Hall.deliverTo(x, QuorumHall.ASK, 2);
        Hall.loseTo(x, 1);
        Hall.deliverAll(x);
        Check.due("a candidate of term 1, a leader of term 2", x.of(1, 0) + " " + x.of(1, 2) + " " + x.of(0, 0), "1 1 2");
        x.beat(0);
        x.deliver(0);
        Check.due("a follower of it without a vote", Hall.of(x, 1), "0 2 -1 0 0 0 0 1");
    }

    /** Leaders, logs: "Whenever a machine deals with a message of a greater term than its own, it has that term then, no vote, and is a FOLLOWER." */
    static void greaterTermByAck() {
        QuorumHall x = Hall.led(3);
        x.beat(0);
        x.stand(1);
        x.deliver(0);
        Check.due("an ACK of term 2", Hall.message(x, x.messages() - 1), "3 1 0 2 0");
        Hall.deliverLast(x);
        Check.due("the leader of term 1", Hall.of(x, 0), "0 2 -1 0 0 0 -1 1");
    }

    /** Leaders, logs: "a message of a greater term than its own" */
    static void theSameTermIsNotGreater() {
        QuorumHall x = Hall.with(5);
        x.stand(0);
        x.stand(1);
        x.deliver(0);
        Check.due("a candidate by an ASK of its term", Hall.of(x, 1), "1 1 1 0 0 0 -1 1");
        Hall.deliverLast(x);
        Check.due("a candidate by a VOTE of its term", Hall.of(x, 0), "1 1 0 0 0 0 -1 1");
        x.deliver(0);
        x.deliver(0);
        Hall.deliverLast(x);
        Hall.deliverLast(x);
        Check.due("a leader", x.of(0, 0), QuorumHall.LEADER);
        Hall.deliverTo(x, QuorumHall.ASK, 0);
        Check.due("by an ASK of its term", Hall.of(x, 0), "2 1 0 0 0 0 -1 1");
        x.beat(0);
        Hall.deliverTo(x, QuorumHall.APPEND, 2);
        Check.due("a follower by an APPEND of its term keeps its vote", Hall.of(x, 2), "0 1 0 0 0 0 0 1");
        Hall.deliverLast(x);
        Check.due("a leader by an ACK of its term", Hall.of(x, 0), "2 1 0 0 0 0 -1 1");
    }

    /** Leaders, logs: "a message of a greater term than its own" */
    static void aLowerTermIsNotGreater() {
        QuorumHall x = Hall.with(3);
        x.stand(0);
        x.stand(1);
        x.stand(1);
        x.deliver(0);
        Check.due("an ASK of a lower term", Hall.of(x, 1), "1 2 1 0 0 0 -1 1");
        x.begin(3);
        x.stand(0);
        x.deliver(0);
        x.stand(0);
        Hall.deliverTo(x, QuorumHall.VOTE, 0);
        Check.due("a VOTE of a lower term", Hall.of(x, 0), "1 2 0 0 0 0 -1 1");
    }

    /** Leaders, logs: "a message of a greater term than its own" */
    static void aGreaterBallotIsNoTerm() {
        QuorumHall x = Hall.led(3);
        x.propose(1, 0, 5);
        x.propose(1, 0, 5);
        Hall.deliverAll(x);
        Check.due("a leader by PREPARE and ACCEPT with the ballot 9", Hall.of(x, 0), "2 1 0 0 0 0 -1 1");
        Check.due("another by PROMISED and ACCEPTED", Hall.of(x, 1), "0 1 0 0 0 0 -1 1");
    }

    // ---- to stand

    /** Leaders, logs: "To stand: its term is 1 more, its vote is for itself, it is a CANDIDATE, and sends ASK, with its term," */
    static void toStand() {
        QuorumHall x = Hall.led(3);
        x.stand(2);
        Check.due("1 more than the term that it had", Hall.of(x, 2), "1 2 2 0 0 0 -1 1");
        Check.due("ASK", Hall.message(x, 0), "0 2 0 2 0");
        x.stand(2);
        Check.due("a candidate that stands again", Hall.of(x, 2), "1 3 2 0 0 0 -1 1");
        Check.due("ASK", Hall.message(x, 2), "0 2 0 3 0");
    }

    /** Leaders, logs: "the number and term of the last entry of its log" */
    static void theLastEntryIsTold() {
        QuorumHall x = partLog(2, 1);
        Check.due("a log of one asks a log of two", getsVote(x, 1, 0), false);
        Check.due("a log of one asks an empty one", getsVote(x, 1, 2), true);
        QuorumHall y = partLog(2, 1);
        leadAnew(y, 0);
        y.request(0, 1, 1, 9);
        Check.due("terms 1, 1, 2", Hall.log(y, 0), "1:1 1:2 2:9");
        y.beat(0);
        y.deliver(1);
        Hall.deliverLast(y);
        Hall.loseAll(y);
        y.beat(0);
        y.deliver(1);
        Check.due("2 has it all", y.of(2, 3), 3);
        Hall.crash(y, 0);
        y.pass(100);
        Check.due("the log with the same last entry gives its vote", getsVote(y, 0, 2), true);
        y.pass(100);
        Check.due("and the other way round", getsVote(y, 2, 0), true);
        Check.due("the one with the last term 1 gets none", getsVote(y, 1, 0), false);
    }

    /** Leaders, logs: "(0 and 0 without any), to all others, by rising numbers." */
    static void zeroAndZeroWithoutAnyEntry() {
        QuorumHall x = Hall.with(3);
        Check.due("an empty log asks an empty one", getsVote(x, 2, 1), true);
        QuorumHall y = partLog(1, 1);
        Check.due("an empty log asks one with an entry", getsVote(y, 2, 1), false);
    }

    /** Leaders, logs: "to all others, by rising numbers." */
    static void allOthersAreAskedByRisingNumbers() {
        for (int m = 0; m < 5; m++) {
            QuorumHall x = Hall.with(5);
            x.stand(m);
            Check.due("four", x.messages(), 4);
            for (int i = 0; i < 4; i++) Check.due("ASK " + i, Hall.message(x, i), "0 " + m + " " + (i < m ? i : i + 1) + " 1 0");
        }
    }

    // ---- ASK

    /** Leaders, logs: "ASK: the machine answers VOTE, with its term, and whether it gives its vote:" */
    static void anAskIsAnswered() {
        QuorumHall x = Hall.with(3);
        x.stand(0);
        Check.due("one answer", x.deliver(0), 1);
        Check.due("a yes", Hall.message(x, 1), "1 1 0 1 0");
        x.stand(2);
        x.stand(2);
        x.stand(2);
        Check.due("one answer", x.deliver(0), 1);
        Check.due("a no, with its own term", Hall.message(x, x.messages() - 1), "1 2 0 3 0");
        x.toggle(0);
        x.toggle(0);
        Check.due("one answer by a machine that promised otherwise", Hall.deliverTo(x, QuorumHall.ASK, 0), 1);
        Check.due("a no, with the term that it has by the ASK", Hall.message(x, x.messages() - 1), "1 0 2 1 0");
    }

    /** Leaders, logs: "if the term is its own," */
    static void noVoteInALowerTerm() {
        QuorumHall x = Hall.with(3);
        x.stand(1);
        x.stand(1);
        Hall.crash(x, 2);
        x.deliver(3);
        Check.due("2 has term 2 without a vote", Hall.of(x, 2), "0 2 -1 0 0 0 2 1");
        x.pass(100);
        Check.due("the ASK of term 1", Hall.message(x, 1), "0 1 2 1 0");
        Check.due("is answered", x.deliver(1), 1);
        Check.due("but given no vote", Hall.of(x, 2), "0 2 -1 0 0 0 -1 1");
        Hall.deliverLast(x);
        Check.due("the answer was a no", x.of(1, 0), QuorumHall.CANDIDATE);
    }

    /** Leaders, logs: "it has no vote in it, or that for the one that asks," */
    static void oneVoteInATerm() {
        QuorumHall x = Hall.with(3);
        x.stand(0);
        x.stand(1);
        x.deliver(1);
        Check.due("the first that asks", x.of(2, 2), 0);
        x.deliver(2);
        Check.due("not the second", x.of(2, 2), 0);
        Hall.deliverLast(x);
        Check.due("its answer was a no", x.of(1, 0), QuorumHall.CANDIDATE);
    }

    /** Leaders, logs: "it has no vote in it, or that for the one that asks," */
    static void theOneThatHasTheVoteIsGivenItAgain() {
        QuorumHall x = Hall.with(3);
        x.stand(0);
        x.twice(1);
        x.deliver(1);
        Hall.loseTo(x, 0);
        Hall.deliverLast(x);
        Check.due("the vote stays", x.of(2, 2), 0);
        Hall.deliverLast(x);
        Check.due("the second answer is a yes too", x.of(0, 0), QuorumHall.LEADER);
    }

    /** Leaders, logs: "it has no vote in it, or that for the one that asks," */
    static void aCandidateHasItsVoteItself() {
        QuorumHall x = Hall.with(3);
        x.stand(0);
        x.stand(1);
        x.deliver(0);
        Check.due("1 keeps its own vote", x.of(1, 2), 1);
        Hall.deliverLast(x);
        Check.due("0 did not get it", x.of(0, 0), QuorumHall.CANDIDATE);
    }

    /** Machine 0 has the log 1:1 1:2 1:3. */
    private static QuorumHall twoTerms(int ofSecond) {
        return twoTerms(3, ofSecond);
    }

    /**
     * Machine 0 has the log 1:1 1:2 and so on and term 1, machines 1 and 2 have 2:9 (so many times) and term 2, 1 leads;
     * 0 is cut off, no promise counts, and no message is left.
     */
    private static QuorumHall twoTerms(int ofFirst, int ofSecond) {
        QuorumHall x = Hall.led(3);
        for (int i = 1; i <= ofFirst; i++) x.request(0, 0, i, i);
        Hall.cutOff(x, 0, 3);
        Hall.lead(x, 1, 0);
        for (int i = 1; i <= ofSecond; i++) x.request(1, 1, i, 9);
        for (int i = 0; i < ofSecond; i++) {
            x.beat(1);
            Hall.loseTo(x, 0);
            Hall.deliverAll(x);
        }
        x.pass(100);
        Hall.crash(x, 0);
        x.pass(100);
        return x;
    }

    /** Machine 1 of twoTerms() crashes, leads in term 3 with 2, and 0 is cut off no more. */
    private static void leadAnewBesides0(QuorumHall x) {
        Hall.crash(x, 1);
        x.pass(100);
        Hall.lead(x, 1, 0);
        Hall.cutOff(x, 0, 3);
    }

    /** Leaders, logs: "the last entry told is of a greater term than its own last one," */
    static void aGreaterLastTermWinsOverALongerLog() {
        QuorumHall x = twoTerms(1);
        Hall.cutOff(x, 0, 3);
        Check.due("logs", Hall.log(x, 0) + "," + Hall.log(x, 2), "1:1 1:2 1:3,2:9");
        Check.due("a shorter log with a greater last term", getsVote(x, 2, 0), true);
        QuorumHall y = twoTerms(1);
        Hall.cutOff(y, 0, 3);
        y.stand(0);
        Check.due("a longer log with a lower last term", getsVote(y, 0, 2), false);
    }

    /** Leaders, logs: "or of the same and with no lower number," */
    static void ofTheSameLastTermTheNumberCounts() {
        QuorumHall x = partLog(2, 2);
        x.request(0, 1, 1, 9);
        Check.due("lower by one", getsVote(x, 1, 0), false);
        QuorumHall y = partLog(3, 3);
        Check.due("the same number", getsVote(y, 1, 0), true);
        QuorumHall z = partLog(3, 2);
        Hall.crash(z, 0);
        z.pass(100);
        Check.due("higher by one", getsVote(z, 0, 1), true);
    }

    /** Leaders, logs: "and it has not promised otherwise (below)." */
    static void noVoteAgainstAPromise() {
        QuorumHall x = Hall.led(5);
        x.beat(0);
        x.deliver(0);
        Check.due("1 promised to 0", x.of(1, 6), 0);
        Check.due("so 2 gets no vote", getsVote(x, 2, 1), false);
        Check.due("but its term counts", Hall.of(x, 1), "0 2 -1 0 0 0 0 1");
        x.pass(99);
        Check.due("nor a little ahead of the end", getsVote(x, 2, 1), false);
        x.pass(1);
        Check.due("at the end it does", getsVote(x, 2, 1), true);
    }

    /** Leaders, logs: "and it has not promised otherwise (below)." */
    static void theVoteIsForTheOneThatWasPromised() {
        QuorumHall x = Hall.led(5);
        x.beat(0);
        x.deliver(0);
        x.spans(1, 0);
        Hall.crash(x, 0);
        x.pass(1);
        Check.due("1 has still promised to 0", x.of(1, 6), 0);
        Check.due("which gets its vote", getsVote(x, 0, 1), true);
    }

    /** Leaders, logs: "and it has not promised otherwise (below)." */
    static void noVoteForAnyoneIsOtherwiseForAll() {
        QuorumHall x = Hall.with(5);
        Hall.crash(x, 3);
        for (int i = 0; i < 5; i++) {
            if (i != 3) Check.due("machine " + i, getsVote(x, i, 3), false);
        }
        x.pass(100);
        Check.due("later", getsVote(x, 4, 3), true);
    }

    /** Leaders, logs: "Then its vote is for that one." */
    static void aVoteThatIsGivenIsItsVote() {
        QuorumHall x = Hall.with(5);
        x.stand(4);
        Hall.deliver(x, 4);
        for (int i = 0; i < 5; i++) Check.due("the vote of " + i, x.of(i, 2), 4);
    }

    /** Leaders, logs: "Then its vote is for that one." */
    static void aVoteThatIsNotGivenIsNoVote() {
        QuorumHall x = partLog(1, 1);
        x.stand(2);
        Hall.deliver(x, 2);
        Check.due("none", x.of(0, 2) + " " + x.of(1, 2), "-1 -1");
        Check.due("so that another one can have it in that term", x.of(0, 1) + " " + x.of(1, 1), "2 2");
        x.stand(0);
        Check.due("in the next", getsVote(x, 0, 1), true);
    }

    // ---- VOTE

    /** Leaders, logs: "VOTE: a CANDIDATE with that term counts the machines that gave it to it," */
    static void aVoteOfALowerTermIsNotCounted() {
        QuorumHall x = Hall.with(3);
        x.stand(0);
        x.deliver(0);
        x.stand(0);
        Check.due("a yes of term 1", Hall.message(x, 1), "1 1 0 1 0");
        x.deliver(1);
        Check.due("in term 2", Hall.of(x, 0), "1 2 0 0 0 0 -1 1");
        QuorumHall y = Hall.with(5);
        y.stand(0);
        y.deliver(0);
        Hall.deliverLast(y);
        Hall.loseAll(y);
        y.stand(0);
        y.deliver(1);
        Hall.deliverLast(y);
        Check.due("one that was counted in term 1 is not in term 2", y.of(0, 0), QuorumHall.CANDIDATE);
        y.deliver(0);
        Hall.deliverLast(y);
        Check.due("two of term 2 are", y.of(0, 0), QuorumHall.LEADER);
    }

    /** Leaders, logs: "VOTE: a CANDIDATE with that term counts the machines that gave it to it," */
    static void aVoteThatWasNotGivenIsNotCounted() {
        QuorumHall x = Hall.with(3);
        Hall.crash(x, 1);
        Hall.crash(x, 2);
        x.stand(0);
        Hall.deliverAll(x);
        Check.due("two answers, none of them a yes", x.of(0, 0), QuorumHall.CANDIDATE);
    }

    /** Leaders, logs: "VOTE: a CANDIDATE with that term counts the machines that gave it to it," */
    static void aFollowerCountsNoVotes() {
        QuorumHall x = Hall.with(3);
        x.stand(0);
        x.deliver(0);
        Hall.crash(x, 0);
        x.pass(100);
        Hall.deliverLast(x);
        Check.due("a yes of its term", Hall.of(x, 0), "0 1 0 0 0 0 -1 1");
    }

    /** Leaders, logs: "VOTE: a CANDIDATE with that term counts the machines that gave it to it," */
    static void aLeaderCountsNoVotes() {
        QuorumHall x = Hall.with(5);
        x.stand(0);
        Hall.deliver(x, 4);
        x.deliver(0);
        x.deliver(0);
        Check.due("a leader, and two votes that are not needed", x.of(0, 0) + " " + x.messages(), "2 2");
        x.request(0, 0, 1, 7);
        x.beat(0);
        x.deliver(2);
        Hall.deliverLast(x);
        x.deliver(0);
        x.deliver(0);
        Check.due("one of five others knows the entry", x.of(0, 4), 0);
        x.deliver(0);
        Hall.deliverLast(x);
        Check.due("the votes did not make it forget that", x.of(0, 4), 1);
        Check.due("nor who answered", x.leases(), 1);
    }

    /** Leaders, logs: "each once;" */
    static void aMachineIsCountedOnce() {
        QuorumHall x = Hall.with(5);
        x.stand(0);
        x.twice(0);
        x.deliver(0);
        Hall.deliverLast(x);
        x.deliver(3);
        Hall.deliverLast(x);
        Check.due("two yes of the same machine", x.of(0, 0), QuorumHall.CANDIDATE);
        x.deliver(0);
        x.twice(x.messages() - 1);
        Hall.deliverLast(x);
        Check.due("one of another", x.of(0, 0), QuorumHall.LEADER);
        Hall.deliverLast(x);
        Check.due("and once more", x.of(0, 0), QuorumHall.LEADER);
    }

    /** Leaders, logs: "with most, its own with these, it is a LEADER:" */
    static void mostVotesWithItsOwn() {
        QuorumHall x = Hall.with(5);
        x.stand(3);
        Hall.deliver(x, 4);
        x.deliver(0);
        Check.due("two of five", Hall.of(x, 3), "1 1 3 0 0 0 -1 1");
        x.deliver(0);
        Check.due("three of five", Hall.of(x, 3), "2 1 3 0 0 0 -1 1");
        QuorumHall y = Hall.with(3);
        y.stand(2);
        Hall.deliver(y, 2);
        Check.due("one of three", y.of(2, 0), QuorumHall.CANDIDATE);
        y.deliver(0);
        Check.due("two of three", y.of(2, 0), QuorumHall.LEADER);
    }

    /** Leaders, logs: "for each other one it supposes that its log is as long as its own," */
    static void aNewLeaderSupposesLogsAsLongAsItsOwn() {
        QuorumHall x = partLog(5, 2);
        leadAnew(x, 0);
        Check.due("no entries for anyone", x.beat(0), 0);
        x.request(0, 1, 1, 9);
        Check.due("only those behind", x.beat(0), 2);
        x.deliver(0);
        Hall.deliverLast(x);
        Hall.loseAll(x);
        x.beat(0);
        Check.due("by a no, three behind the second; the other one still one", Hall.message(x, 0) + "," + Hall.message(x, 1),
            "2 0 1 2 3,2 0 2 2 1");
    }

    /** Leaders, logs: "and that 0 entries are the same." */
    static void aNewLeaderKnowsOfNoSameEntries() {
        QuorumHall x = partLog(3, 3);
        leadAnew(x, 0);
        x.request(0, 1, 1, 9);
        x.beat(0);
        x.deliver(1);
        Hall.deliverLast(x);
        Check.due("the longer log of 1, and 2 that says no, are no agreement", x.of(0, 4), 0);
        Hall.deliverTo(x, QuorumHall.APPEND, 1);
        Hall.deliverLast(x);
        Check.due("the yes of 1 is", x.of(0, 4), 4);
    }

    /** Leaders, logs: "It sends nothing by that." */
    static void aNewLeaderSendsNothing() {
        QuorumHall x = Hall.with(5);
        x.stand(0);
        Hall.deliver(x, 4);
        x.deliver(0);
        Check.due("the vote that makes it one", x.deliver(0), 0);
        Check.due("a leader, and the two votes that are left", x.of(0, 0) + " " + x.messages(), "2 2");
    }

    // ---- to beat

    /** Leaders, logs: "To beat: a LEADER sends APPEND to all others, by rising numbers: with its term," */
    static void allOthersGetAnAppendByRisingNumbers() {
        for (int m = 0; m < 5; m++) {
            QuorumHall x = Hall.with(5);
            x.stand(m);
            x.stand(m);
            Hall.deliverAll(x);
            x.beat(m);
            Check.due("four", x.messages(), 4);
            for (int i = 0; i < 4; i++) Check.due("APPEND " + i, Hall.message(x, i), "2 " + m + " " + (i < m ? i : i + 1) + " 2 0");
        }
    }

    /** Leaders, logs: "the number p and term of the entry up to which it supposes the log to be as its own" */
    static void theTermOfEntryPIsTold() {
        QuorumHall x = twoTerms(1);
        leadAnewBesides0(x);
        x.beat(1);
        Check.due("p is 1, of term 2, so 0 with 1:1 says no", x.deliver(0), 1);
        Check.due("nothing is put or promised", Hall.log(x, 0) + " " + x.of(0, 6), "1:1 1:2 1:3 -1");
        Check.due("2 with 2:9 says yes", x.deliver(0), 1);
        Check.due("and promises", x.of(2, 6), 1);
    }

    /** Leaders, logs: "(0 and 0 for none)," */
    static void zeroAndZeroSuitsEveryLog() {
        QuorumHall x = Hall.led(3);
        x.request(0, 0, 1, 7);
        x.beat(0);
        Check.due("an empty log", x.deliver(0), 1);
        Check.due("takes the entry behind none", Hall.log(x, 1), "1:7");
        Hall.loseAll(x);
        x.beat(0);
        x.deliver(0);
        Check.due("one with entries finds it there", Hall.log(x, 1) + " " + x.of(1, 6), "1:7 0");
    }

    /** Leaders, logs: "up to 3 entries behind that," */
    static void upToThreeEntriesBehindP() {
        QuorumHall x = Hall.led(3);
        Check.due("none", x.beat(0), 0);
        for (int i = 1; i <= 5; i++) {
            x.request(0, 0, i, i);
            Hall.loseAll(x);
            Check.due("two times the " + Math.min(i, 3) + " of " + i, x.beat(0), 2 * Math.min(i, 3));
            Check.due("in each", x.message(0, 4) + " " + x.message(1, 4), Math.min(i, 3) + " " + Math.min(i, 3));
        }
        x.deliver(1);
        Hall.deliverLast(x);
        Check.due("the first three", Hall.log(x, 2), "1:1 1:2 1:3");
        Hall.loseAll(x);
        Check.due("two behind the third", x.beat(0), 3 + 2);
        x.deliver(1);
        Check.due("which are the fourth and fifth", Hall.log(x, 2), "1:1 1:2 1:3 1:4 1:5");
    }

    /** Leaders, logs: "its commit, and its clock." */
    static void theCommitAndClockOfTheBeatAreTold() {
        QuorumHall x = Hall.led(3);
        x.rate(0, 500);
        x.request(0, 0, 1, 7);
        x.pass(20);
        x.beat(0);
        x.pass(30);
        x.beat(0);
        x.deliver(0);
        Hall.deliverLast(x);
        Check.due("the clock when it beat", x.lease(0), 1f + 10f);
        Check.due("agreed meanwhile", x.of(0, 4), 1);
        x.deliver(1);
        x.deliver(0);
        Check.due("the commit when it beat", x.of(1, 4) + " " + x.of(2, 4), "0 0");
        x.beat(0);
        x.deliver(x.messages() - 2);
        Check.due("the commit of the next", x.of(1, 4), 1);
    }

    // ---- APPEND

    /** 0 leads in term 2 with four entries of term 1, which all have; there is an APPEND of term 1 to machine 1. */
    private static QuorumHall oldAppend() {
        QuorumHall x = Hall.led(3);
        for (int i = 1; i <= 4; i++) x.request(0, 0, i, i);
        Hall.beatAll(x, 0);
        Hall.beatAll(x, 0);
        x.beat(0);
        x.lose(1);
        Hall.crash(x, 0);
        x.pass(100);
        x.stand(0);
        for (int i = 0; i < 4; i++) x.deliver(1);
        Check.due("leads in term 2", Hall.of(x, 0), "2 2 0 4 0 0 -1 1");
        Check.due("the APPEND of term 1", x.messages() + ": " + Hall.message(x, 0), "1: 2 0 1 1 0");
        return x;
    }

    /** Leaders, logs: "APPEND: of a lower term than its own: it answers ACK, with its term, no, and 0." */
    static void anAppendOfALowerTerm() {
        QuorumHall x = oldAppend();
        String before = Hall.of(x, 1) + Hall.log(x, 1);
        Check.due("an answer", x.deliver(0), 1);
        Check.due("ACK with its own term", Hall.message(x, 0), "3 1 0 2 0");
        Check.due("nothing else", Hall.of(x, 1) + Hall.log(x, 1), before);
        Check.due("ahead of it no entries are sent", x.beat(0), 0);
        x.deliver(0);
        Hall.loseAll(x);
        Check.due("by the no, those behind 0", x.beat(0), 3);
        Check.due("to 1", Hall.message(x, 0) + "," + Hall.message(x, 1), "2 0 1 2 3,2 0 2 2 0");
        Check.due("no yes came", x.leases(), 0);
    }

    /** Leaders, logs: "APPEND: of a lower term than its own: it answers ACK, with its term, no, and 0." */
    static void aCandidateOfAGreaterTermStaysOne() {
        QuorumHall x = Hall.led(3);
        x.request(0, 0, 1, 7);
        x.beat(0);
        x.stand(1);
        x.deliver(0);
        Check.due("a candidate, without the entry and without a promise", Hall.of(x, 1), "1 2 1 0 0 0 -1 1");
    }

    /** Leaders, logs: "Otherwise it is a FOLLOWER;" */
    static void aCandidateOfTheSameTermFollows() {
        QuorumHall x = Hall.with(3);
        x.stand(0);
        x.stand(1);
        x.deliver(1);
        Hall.deliverLast(x);
        x.beat(0);
        Check.due("a candidate", x.of(1, 0), QuorumHall.CANDIDATE);
        Hall.deliverTo(x, QuorumHall.APPEND, 1);
        Check.due("a follower of the same term, with its own vote", Hall.of(x, 1), "0 1 1 0 0 0 0 1");
    }

    /** Leaders, logs: "Otherwise it is a FOLLOWER;" */
    static void aCandidateThatSaysNoFollowsToo() {
        QuorumHall x = partLog(1, 0);
        x.stand(1);
        Hall.loseAll(x);
        Hall.crash(x, 0);
        x.pass(100);
        x.stand(0);
        Check.due("both are candidates of term 2", x.of(0, 0) + " " + x.of(1, 0) + " " + x.of(0, 1) + " " + x.of(1, 1), "1 1 2 2");
        Hall.deliverTo(x, QuorumHall.ASK, 2);
        Hall.deliverLast(x);
        Check.due("0 leads by the vote of 2", x.of(0, 0), QuorumHall.LEADER);
        x.beat(0);
        Hall.deliverTo(x, QuorumHall.APPEND, 1);
        Check.due("1 has no entry 1, and follows, but promises nothing", Hall.of(x, 1), "0 2 1 0 0 0 -1 1");
    }

    /** What 0, a new leader in term 2 with so many entries of term 1, sends to 1 behind its answer, 1 having so many. */
    private static String sentBehindNo(int entries, int of1) {
        QuorumHall x = partLog(entries, of1);
        leadAnew(x, 0);
        x.beat(0);
        String before = Hall.of(x, 1) + " " + Hall.log(x, 1);
        Check.due("one answer", x.deliver(0), 1);
        Check.due("no promise, no commit, the log as it was", Hall.of(x, 1) + " " + Hall.log(x, 1), before);
        Hall.deliverLast(x);
        Check.due("nor a lease", x.lease(0), -1f);
        Hall.loseAll(x);
        x.beat(0);
        return Hall.message(x, 0);
    }

    /** Leaders, logs: "if its log has no entry p of that term (p not being 0), it answers no, and the lower one of p less 1 and the length of its log." */
    static void aShorterLogTellsItsLength() {
        Check.due("5 and 4: one behind", sentBehindNo(5, 4), "2 0 1 2 1");
        Check.due("5 and 3: two behind", sentBehindNo(5, 3), "2 0 1 2 2");
        Check.due("2 and 0: two behind", sentBehindNo(2, 0), "2 0 1 2 2");
        Check.due("1 and 0: one behind", sentBehindNo(1, 0), "2 0 1 2 1");
        QuorumHall x = partLog(5, 1);
        leadAnew(x, 0);
        x.beat(0);
        x.deliver(0);
        Hall.deliverLast(x);
        Hall.loseAll(x);
        x.beat(0);
        x.deliver(0);
        Check.due("5 and 1: the three behind the first", Hall.log(x, 1), "1:1 1:2 1:3 1:4");
    }

    /** Leaders, logs: "if its log has no entry p of that term (p not being 0), it answers no, and the lower one of p less 1 and the length of its log." */
    static void aLogWithAnotherEntryTellsPLess1() {
        QuorumHall x = twoTerms(3);
        leadAnewBesides0(x);
        for (int behind = 0; behind < 3; behind++) {
            Hall.loseAll(x);
            x.beat(1);
            Check.due("p is " + (3 - behind), Hall.message(x, 0), "2 1 0 3 " + behind);
            x.deliver(0);
            Check.due("it has an entry of that number, but of term 1", Hall.log(x, 0), "1:1 1:2 1:3");
            Hall.deliverLast(x);
        }
        Hall.loseAll(x);
        x.beat(1);
        Check.due("p is 0", Hall.message(x, 0), "2 1 0 3 3");
        x.deliver(0);
        Check.due("which is no no", Hall.log(x, 0), "2:9 2:9 2:9");
    }

    /** Leaders, logs: "if its log has no entry p of that term (p not being 0)" */
    static void withPZeroThereIsNoNo() {
        QuorumHall x = Hall.led(3);
        x.beat(0);
        x.deliver(0);
        Check.due("an empty log", x.of(1, 6), 0);
        QuorumHall y = Hall.led(3);
        for (int i = 1; i <= 3; i++) y.request(0, 0, i, i);
        Hall.cutOff(y, 0, 3);
        Hall.lead(y, 1, 0);
        Hall.cutOff(y, 0, 3);
        y.beat(1);
        y.deliver(0);
        Check.due("a log with entries, and none came", Hall.log(y, 0) + " " + y.of(0, 6), "1:1 1:2 1:3 1");
    }

    /** Leaders, logs: "Otherwise, of the entries that came, from the first one on that its log does not have so (by term), all behind is cut, and they are put there;" */
    static void allBehindTheFirstUnlikeOneIsCut() {
        QuorumHall x = twoTerms(1);
        Hall.cutOff(x, 0, 3);
        x.beat(1);
        Check.due("knows that 2 has the entry, supposes nothing in the log of 0", Hall.message(x, 0), "2 1 0 2 1");
        x.deliver(0);
        Check.due("three entries of term 1 are cut, the new one is put", Hall.log(x, 0), "2:9");
        Check.due("with all that it has", entry(x, 0, 1), "2 1 1 9");
    }

    /** Leaders, logs: "Otherwise, of the entries that came, from the first one on that its log does not have so (by term), all behind is cut, and they are put there;" */
    static void whatIsAheadOfTheFirstUnlikeOneStays() {
        QuorumHall x = Hall.led(3);
        x.request(0, 0, 1, 1);
        Hall.beatAll(x, 0);
        for (int i = 2; i <= 4; i++) x.request(0, 0, i, i);
        Hall.cutOff(x, 0, 3);
        x.pass(100);
        Hall.lead(x, 1, 0);
        Hall.cutOff(x, 0, 3);
        x.request(1, 1, 1, 8);
        x.beat(1);
        x.deliver(0);
        Check.due("the first entry stays, the other three are cut", Hall.log(x, 0), "1:1 2:8");
        Hall.loseAll(x);
        x.request(1, 1, 2, 9);
        x.beat(1);
        Check.due("two behind the first, of which one is there", Hall.message(x, 0), "2 1 0 2 2");
        x.deliver(0);
        Check.due("the other one is put behind it", Hall.log(x, 0), "1:1 2:8 2:9");
    }

    /** Leaders, logs: "from the first one on that its log does not have so (by term), all behind is cut," */
    static void nothingIsCutIfAllThatCameIsThere() {
        QuorumHall x = Hall.led(3);
        x.request(0, 0, 1, 1);
        x.beat(0);
        x.request(0, 0, 2, 2);
        x.request(0, 0, 3, 3);
        x.beat(0);
        x.deliver(2);
        Check.due("all three", x.of(1, 3), 3);
        x.deliver(0);
        Check.due("the older message with the first entry alone cuts nothing", Hall.log(x, 1), "1:1 1:2 1:3");
    }

    /** Leaders, logs: "from the first one on that its log does not have so (by term), all behind is cut," */
    static void nothingIsCutIfNoEntryCame() {
        QuorumHall x = Hall.led(3);
        x.beat(0);
        for (int i = 1; i <= 2; i++) x.request(0, 0, i, i);
        x.beat(0);
        x.deliver(2);
        x.deliver(0);
        Check.due("an APPEND of old without entries, with p 0", Hall.log(x, 1), "1:1 1:2");
    }

    /** Leaders, logs: "its commit becomes the least of the commit told and the last entry that came, or p," */
    static void theCommitToldIsTheLeast() {
        QuorumHall x = Hall.led(3);
        x.request(0, 0, 1, 1);
        Hall.beatAll(x, 0);
        x.request(0, 0, 2, 2);
        x.beat(0);
        x.deliver(0);
        Check.due("two entries, the commit 1 was told", x.of(1, 3) + " " + x.of(1, 4), "2 1");
    }

    /** Leaders, logs: "its commit becomes the least of the commit told and the last entry that came, or p," */
    static void theLastEntryThatCameIsTheLeast() {
        QuorumHall x = Hall.led(3);
        for (int i = 1; i <= 5; i++) x.request(0, 0, i, i);
        for (int i = 0; i < 2; i++) {
            x.beat(0);
            x.lose(1);
            Hall.deliverAll(x);
        }
        Check.due("agreed with 1", x.of(0, 4), 5);
        x.beat(0);
        x.deliver(1);
        Check.due("three came, the commit 5 was told", Hall.of(x, 2), "0 1 0 3 3 3 0 1");
    }

    /** Leaders, logs: "its commit becomes the least of the commit told and the last entry that came, or p," */
    static void theLastThatCameCountsNotTheLastOfTheLog() {
        QuorumHall x = answeredNo();
        x.request(0, 1, 1, 6);
        x.request(0, 1, 2, 7);
        for (int i = 0; i < 2; i++) {
            x.beat(0);
            Hall.loseTo(x, 2);
            x.deliver(1);
            Hall.deliverLast(x);
        }
        Check.due("seven agreed, six known to 1", x.of(0, 4) + " " + x.of(1, 4) + " " + x.of(1, 3), "7 6 7");
        x.deliver(0);
        x.beat(0);
        Check.due("by the no of old, entries 4 to 6 come again", Hall.message(x, 0), "2 0 1 2 3");
        x.deliver(0);
        Check.due("of which the last is 6", x.of(1, 4) + " " + x.of(1, 3), "6 7");
    }

    /** Leaders, logs: "its commit becomes the least of the commit told and the last entry that came, or p," */
    static void withoutEntriesPCounts() {
        QuorumHall x = Hall.led(3);
        for (int i = 1; i <= 4; i++) x.request(0, 0, i, i);
        x.beat(0);
        Hall.deliverAll(x);
        Check.due("three agreed, none known to the others", x.of(0, 4) + " " + x.of(1, 4), "3 0");
        x.beat(0);
        x.deliver(0);
        Check.due("p 3 and one came, 3 was told", x.of(1, 4), 3);
        Hall.deliverAll(x);
        Check.due("four agreed", x.of(0, 4), 4);
        Check.due("no entries", x.beat(0), 0);
        x.deliver(0);
        Check.due("p is 4", x.of(1, 4), 4);
    }

    /** Leaders, logs: "its commit becomes the least of the commit told and the last entry that came, or p," */
    static void theLastThatCameIsCountedFromP() {
        QuorumHall x = Hall.led(5);
        for (int i = 1; i <= 2; i++) x.request(0, 0, i, i);
        x.beat(0);
        x.deliver(0);
        Hall.deliverLast(x);
        Hall.loseAll(x);
        for (int i = 3; i <= 5; i++) x.request(0, 0, i, i);
        x.beat(0);
        Check.due("p is 2 for 1, 0 for 2", x.message(0, 4) + " " + x.message(1, 4), "3 3");
        Hall.loseTo(x, 1);
        Hall.deliverAll(x);
        x.beat(0);
        Hall.loseTo(x, 1);
        Hall.deliverAll(x);
        Check.due("all five are agreed with 2, 3 and 4", x.of(0, 4), 5);
        Check.due("1 has two", x.of(1, 3), 2);
        x.beat(0);
        x.deliver(0);
        Check.due("p 2 and three came", x.of(1, 4), 5);
    }

    /** Leaders, logs: "if that is more than it was;" */
    static void anOlderAppendDoesNotTakeTheCommitBack() {
        QuorumHall x = Hall.led(3);
        x.request(0, 0, 1, 1);
        Hall.beatAll(x, 0);
        x.beat(0);
        x.request(0, 0, 2, 2);
        x.beat(0);
        Hall.deliverTo(x, QuorumHall.APPEND, 2);
        x.deliver(2);
        Hall.deliverLast(x);
        Check.due("two agreed", x.of(0, 4), 2);
        x.beat(0);
        x.deliver(x.messages() - 2);
        Check.due("the commit 2", x.of(1, 4), 2);
        x.deliver(0);
        Check.due("the commit 1 of old does not count", x.of(1, 4), 2);
    }

    /** Leaders, logs: "it promises," */
    static void aYesPromisesAndANoDoesNot() {
        QuorumHall x = partLog(1, 1);
        leadAnew(x, 0);
        x.beat(0);
        x.deliver(0);
        x.deliver(0);
        Check.due("1 has the entry, 2 has not", x.of(1, 6) + " " + x.of(2, 6), "0 -1");
    }

    /** Leaders, logs: "and answers yes, and the number of the last entry that came," */
    static void aYesTellsTheLastEntryThatCame() {
        QuorumHall x = Hall.led(3);
        for (int i = 1; i <= 4; i++) x.request(0, 0, i, i);
        x.beat(0);
        x.deliver(0);
        Hall.deliverLast(x);
        Check.due("three", x.of(0, 4), 3);
        Hall.loseAll(x);
        x.beat(0);
        Check.due("one behind them", x.message(0, 4), 1);
        x.deliver(0);
        Hall.deliverLast(x);
        Check.due("p and one", x.of(0, 4), 4);
    }

    /** Leaders, logs: "and answers yes, and the number of the last entry that came," */
    static void aYesTellsNoMoreThanCame() {
        QuorumHall x = Hall.led(3);
        x.request(0, 0, 1, 1);
        x.beat(0);
        for (int i = 2; i <= 3; i++) x.request(0, 0, i, i);
        x.beat(0);
        x.deliver(2);
        x.lose(x.messages() - 1);
        x.deliver(0);
        Check.due("the log of 1 has three", x.of(1, 3), 3);
        Hall.deliverLast(x);
        Check.due("but one came, and one is agreed", x.of(0, 4), 1);
    }

    /** Leaders, logs: "and the number of the last entry that came, or p." */
    static void aYesTellsPIfNoneCame() {
        QuorumHall x = partLog(1, 0);
        leadAnew(x, 0);
        x.beat(0);
        x.beat(0);
        Hall.loseTo(x, 2);
        x.deliver(0);
        Hall.deliverLast(x);
        x.beat(0);
        Check.due("by the no, p is 0 and the entry comes", Hall.message(x, 1), "2 0 1 2 1");
        x.deliver(1);
        Check.due("1 has it", x.of(1, 3), 1);
        x.lose(x.messages() - 1);
        x.deliver(0);
        Check.due("the second message with p 1 and no entries", Hall.message(x, x.messages() - 1), "3 1 0 2 0");
        Hall.deliverLast(x);
        Hall.loseAll(x);
        x.beat(0);
        Check.due("its yes told p, so the entry is supposed to be there", Hall.message(x, 0), "2 0 1 2 0");
    }

    /** Leaders, logs: "Each ACK has the clock that the APPEND had." */
    static void anAckHasTheClockOfItsAppend() {
        QuorumHall x = Hall.led(3);
        x.rate(0, 500);
        x.rate(1, 1500);
        x.pass(20);
        x.beat(0);
        x.pass(10);
        x.deliver(0);
        x.pass(10);
        Hall.deliverLast(x);
        Check.due("1, not 1.5 or 2, nor that of the other one", x.lease(0), 1f + 10f);
    }

    // ---- ACK

    /** Leaders, logs: "ACK: a LEADER with that term:" */
    static void anAckOfALowerTermCountsNothing() {
        QuorumHall x = Hall.led(3);
        x.request(0, 0, 1, 1);
        x.request(0, 0, 2, 2);
        x.beat(0);
        x.deliver(0);
        x.deliver(0);
        Check.due("two yes of term 1", Hall.message(x, 0) + "," + Hall.message(x, 1), "3 1 0 1 0,3 2 0 1 0");
        Hall.crash(x, 0);
        x.pass(100);
        x.stand(0);
        for (int i = 0; i < 4; i++) x.deliver(2);
        Check.due("leads in term 2", Hall.of(x, 0), "2 2 0 2 0 0 -1 1");
        x.request(0, 1, 1, 3);
        x.deliver(0);
        x.deliver(0);
        Check.due("no agreement, no lease", x.of(0, 4) + " " + x.lease(0), "0 -1.0");
        Check.due("and it supposes what it did", x.beat(0), 2);
    }

    /** Leaders, logs: "ACK: a LEADER with that term:" */
    static void anAckToOneThatIsNoLeaderCountsNothing() {
        QuorumHall x = Hall.led(3);
        x.request(0, 0, 1, 1);
        x.beat(0);
        Hall.deliver(x, 2);
        Hall.crash(x, 0);
        Hall.deliverAll(x);
        Check.due("a follower of the same term", Hall.of(x, 0), "0 1 0 1 0 0 0 1");
        Check.due("without a lease", x.lease(0), -1f);
    }

    /** 0 leads in term 2 with five entries, 1 has three of term 1 and 2 none; 1 answered no, by which 0 supposes 3. */
    private static QuorumHall answeredNo() {
        QuorumHall x = partLog(5, 3);
        leadAnew(x, 0);
        x.beat(0);
        Hall.loseTo(x, 2);
        x.deliver(0);
        x.twice(0);
        x.deliver(0);
        Check.due("a like no is left", Hall.message(x, 0), "3 1 0 2 0");
        return x;
    }

    /** Leaders, logs: "by no, it supposes the log of the other one to be as its own up to the number told," */
    static void byNoItSupposesWhatWasTold() {
        QuorumHall x = answeredNo();
        x.beat(0);
        Check.due("two behind the third for 1, none for 2", Hall.message(x, 1) + "," + Hall.message(x, 2), "2 0 1 2 2,2 0 2 2 0");
    }

    /** Leaders, logs: "also if it knew more;" */
    static void byNoItSupposesLessThanItKnew() {
        QuorumHall x = answeredNo();
        x.beat(0);
        Hall.loseTo(x, 2);
        x.deliver(1);
        Hall.deliverLast(x);
        Check.due("five are known of 1", x.beat(0), 0);
        x.deliver(0);
        Check.due("the no of old tells 3", x.beat(0), 2);
        x.request(0, 1, 1, 9);
        Hall.loseAll(x);
        x.beat(0);
        x.deliver(0);
        Hall.deliverLast(x);
        Check.due("six are known and agreed", x.of(0, 4), 6);
    }

    /** 1 leads in term 3 with five entries, of which 0 has none, but four others; its first no, which tells 4, is doubled. */
    private static QuorumHall doubledNo() {
        QuorumHall x = twoTerms(4, 5);
        leadAnewBesides0(x);
        askOf0(x);
        x.twice(0);
        x.deliver(0);
        Check.due("a like no is left", x.messages() + ": " + Hall.message(x, 0), "1: 3 0 1 3 0");
        return x;
    }

    /** 1 beats, and 0 answers by the last message. */
    private static void askOf0(QuorumHall x) {
        x.beat(1);
        Hall.loseTo(x, 2);
        Hall.deliverLast(x);
    }

    /** How many entries the next APPEND to 0 has: up to three behind the one up to which 1 supposes its log to be as its own. */
    private static int sentTo0(QuorumHall x) {
        x.beat(1);
        return x.message(x.messages() - 2, 4);
    }

    /** Leaders, logs: "by no, it supposes the log of the other one to be as its own up to the number told," */
    static void byNoItSupposesMoreIfThatIsTold() {
        QuorumHall x = doubledNo();
        askOf0(x);
        Hall.deliverLast(x);
        Check.due("a no with 3: two of five are behind that", sentTo0(x), 2);
        x.deliver(0);
        Check.due("the no of old with 4: one", sentTo0(x), 1);
    }

    /** Leaders, logs: "by yes, if the number is more than it knew to be the same, it knows and supposes that;" */
    static void byYesItSupposesLessIfItKnewLessStill() {
        QuorumHall x = doubledNo();
        for (int i = 0; i < 4; i++) {
            askOf0(x);
            Hall.deliverLast(x);
        }
        askOf0(x);
        Check.due("0 has three of five, and has said so", Hall.log(x, 0) + ", " + x.messages(), "2:9 2:9 2:9, 2");
        x.deliver(0);
        Check.due("the no of old with 4: one behind that", sentTo0(x), 1);
        Check.due("a yes with 3, which is more than the 0 known", x.deliver(0), 0);
        Check.due("two behind that", sentTo0(x), 2);
    }

    /** Leaders, logs: "by yes, if the number is more than it knew to be the same, it knows and supposes that;" */
    static void byYesItSupposesMoreOnlyIfItKnewLess() {
        QuorumHall x = answeredNo();
        x.beat(0);
        Hall.loseTo(x, 2);
        x.deliver(1);
        Hall.deliverLast(x);
        x.deliver(0);
        Check.due("five known, three supposed", x.beat(0), 2);
        x.deliver(0);
        Hall.deliverLast(x);
        Check.due("a yes with five is not more than known", x.beat(0), 2);
        x.request(0, 1, 1, 9);
        Hall.loseAll(x);
        x.beat(0);
        x.deliver(0);
        Hall.deliverLast(x);
        Check.due("one with six is: none for 1, one for 2", x.beat(0), 0 + 1);
    }

    /** Leaders, logs: "by yes, if the number is more than it knew to be the same, it knows and supposes that;" */
    static void aYesOfOldTakesNothingBack() {
        QuorumHall x = Hall.led(3);
        x.request(0, 0, 1, 1);
        x.beat(0);
        x.deliver(0);
        x.request(0, 0, 2, 2);
        x.beat(0);
        x.deliver(2);
        Hall.deliverLast(x);
        Check.due("two known", x.of(0, 4), 2);
        x.deliver(1);
        Hall.loseAll(x);
        x.beat(0);
        Check.due("the yes with one changes nothing", Hall.message(x, 0), "2 0 1 1 0");
        Check.due("the commit", x.of(0, 4), 2);
    }

    /** Leaders, logs: "then its commit becomes the greatest number that most know to be the same (its own log with these)," */
    static void theGreatestNumberThatMostKnow() {
        QuorumHall x = Hall.led(5);
        for (int i = 1; i <= 3; i++) {
            x.request(0, 0, i, i);
            x.beat(0);
        }
        answerAppend(x, 1, 1);
        Check.due("1 knows one", x.of(0, 4), 0);
        answerAppend(x, 2, 3);
        Check.due("2 knows three: three of five know one", x.of(0, 4), 1);
        answerAppend(x, 3, 2);
        Check.due("3 knows two: three of five know two", x.of(0, 4), 2);
        answerAppend(x, 4, 3);
        Check.due("4 knows three: three of five know three", x.of(0, 4), 3);
    }

    /** Delivers the APPEND to that machine with so many entries, and the answer. */
    private static void answerAppend(QuorumHall x, int to, int entries) {
        for (int i = 0; i < x.messages(); i++) {
            if (x.message(i, 0) == QuorumHall.APPEND && x.message(i, 2) == to && x.message(i, 4) == entries) {
                x.deliver(i);
                Hall.deliverLast(x);
                return;
            }
        }
        Check.due("an APPEND to " + to, "none", entries);
    }

    /** Leaders, logs: "then its commit becomes the greatest number that most know to be the same (its own log with these)," */
    static void aMachineThatAnswersTwiceIsOne() {
        QuorumHall x = Hall.led(5);
        x.request(0, 0, 1, 1);
        x.beat(0);
        x.twice(0);
        x.deliver(4);
        x.deliver(0);
        Hall.deliverLast(x);
        Hall.deliverLast(x);
        Check.due("two yes of 1", x.of(0, 4), 0);
        x.deliver(0);
        Hall.deliverLast(x);
        Check.due("and one of 2", x.of(0, 4), 1);
    }

    /** Leaders, logs: "if that entry is of its own term," */
    static void anEntryOfAnOlderTermIsAgreedOnlyWithOneOfItsOwn() {
        QuorumHall x = partLog(1, 1);
        leadAnew(x, 0);
        Hall.beatAll(x, 0);
        Hall.beatAll(x, 0);
        Check.due("all three have it and say so", Hall.log(x, 1) + " " + Hall.log(x, 2) + " " + x.of(0, 4), "1:1 1:1 0");
        x.request(0, 1, 1, 9);
        Check.due("an own one that most don't have", x.of(0, 4), 0);
        Hall.beatAll(x, 0);
        Check.due("both are agreed", x.of(0, 4), 2);
    }

    /** Leaders, logs: "and if that is more." */
    static void theCommitOfALeaderIsNotTakenBack() {
        QuorumHall x = Hall.led(3);
        x.request(0, 0, 1, 1);
        Hall.beatAll(x, 0);
        Hall.beatAll(x, 0);
        x.pass(100);
        Hall.lead(x, 1, -1);
        Check.due("a new leader with the commit 1, by what 0 told", Hall.of(x, 1), "2 2 1 1 1 1 -1 1");
        x.beat(1);
        x.deliver(0);
        Hall.deliverLast(x);
        Check.due("most know one to be the same, which is no more", x.of(1, 4), 1);
        x.request(1, 1, 1, 2);
        x.beat(1);
        x.deliver(1);
        Hall.deliverLast(x);
        Check.due("two", x.of(1, 4), 2);
        x.deliver(0);
        Hall.deliverLast(x);
        Check.due("a yes of old with one takes nothing back", x.of(1, 4), 2);
    }

    // ---- what is put, and what is applied

    /** Leaders, logs: "An entry is put into the log of a LEADER by a request of a client with a serial;" */
    static void anEntryIsPutByARequest() {
        QuorumHall x = Hall.led(3);
        x.request(0, 2, 40, 444);
        Check.due("of its term", x.of(0, 3) + ": " + entry(x, 0, 1), "1: 1 2 40 444");
        leadAnew(x, 0);
        x.request(0, 3, 41, 555);
        Check.due("of its term", x.of(0, 3) + ": " + entry(x, 0, 2), "2: 2 3 41 555");
        Check.due("into no other log", x.of(1, 3) + x.of(2, 3), 0);
    }

    /** Leaders, logs: "if its log has an entry of that client with that serial or a greater one, nothing is put, though the act is kept." */
    static void theSameSerialIsPutOnce() {
        QuorumHall x = Hall.led(3);
        x.request(0, 2, 40, 444);
        Check.due("the same", x.request(0, 2, 40, 444), 1);
        Check.due("one entry, one act", x.of(0, 3) + " " + x.acts(), "1 1");
        Check.due("of another client", x.request(0, 1, 40, 444), 2);
        Check.due("two entries, two acts", x.of(0, 3) + " " + x.acts(), "2 2");
    }

    /** Leaders, logs: "if its log has an entry of that client with that serial or a greater one, nothing is put, though the act is kept." */
    static void aLowerSerialIsNotPut() {
        QuorumHall x = Hall.led(3);
        x.request(0, 2, 40, 444);
        Check.due("lower by one", x.request(0, 2, 39, 333), 0);
        Check.due("one entry, but two acts", x.of(0, 3) + " " + x.acts(), "1 2");
        Check.due("the act", x.act(1, 0) + " " + x.act(1, 1) + " " + x.act(1, 3), "1 333 -1");
        Check.due("greater by one", x.request(0, 2, 41, 555), 2);
        Check.due("the first, with one greater behind it", x.request(0, 2, 40, 444), 1);
        Check.due("the one that is nowhere", x.request(0, 2, 39, 333), 0);
        Check.due("two entries, three acts", x.of(0, 3) + " " + x.acts(), "2 3");
    }

    /** Leaders, logs: "if its log has an entry of that client with that serial or a greater one," */
    static void whatWasCutIsPutAgain() {
        QuorumHall x = twoTerms(1);
        Check.due("1 does not have the entries of 0", x.request(1, 0, 2, 2), 2);
        Check.due("the lower one is not put any more", x.request(1, 0, 1, 1), 0);
        Check.due("no new acts", x.acts(), 4);
    }

    /** Leaders, logs: "What is agreed is applied in order: a machine's value is that of the last entry up to its commit, 0 without any;" */
    static void theValueIsThatOfTheLastAgreedEntry() {
        QuorumHall x = Hall.led(3);
        Check.due("without any", x.of(0, 5), 0);
        for (int i = 1; i <= 4; i++) x.request(0, i - 1, 9 - i, 10 * i);
        Check.due("with four that are not agreed", x.of(0, 5), 0);
        Hall.beatAll(x, 0);
        Check.due("three agreed, and four in the log", x.of(0, 4) + " " + x.of(0, 3) + " " + x.of(0, 5), "3 4 30");
        Check.due("of a machine that does not know", x.of(1, 5), 0);
        Hall.beatAll(x, 0);
        Check.due("four", x.of(0, 5), 40);
        Check.due("of a machine that knows of three", x.of(1, 4) + " " + x.of(1, 5), "3 30");
        x.toggle(1);
        Check.due("of one that knows nothing any more", x.of(1, 5), 0);
    }

    /** Leaders, logs: "an entry whose client has one with its serial or a greater one ahead of it in the log changes nothing." */
    static void noLogHasASerialTwice() {
        QuorumHall x = twoTerms(1);
        Hall.cutOff(x, 0, 3);
        x.request(1, 0, 3, 3);
        for (int i = 0; i < 3; i++) Hall.beatAll(x, 1);
        x.request(1, 0, 3, 3);
        x.request(1, 0, 2, 2);
        Check.due("the request of old is once in each log", Hall.log(x, 0) + "," + Hall.log(x, 1), "2:9 2:3,2:9 2:3");
        Check.due("and counts once", x.of(0, 5) + " " + x.of(1, 5), "3 3");
    }
}
