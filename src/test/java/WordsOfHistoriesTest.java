/** What DOC.md says under "Histories": a test for each sentence, or part of one. */
public final class WordsOfHistoriesTest {
    public static void main(String[] args) throws IllegalAccessException {
        Check.runAll(WordsOfHistoriesTest.class);
    }

    // ---- writes and reads

    /** Histories: "Clients act on one register, 0 at first:" */
    static void oneRegisterForAllClients() {
        QuorumHall x = Hall.led(3);
        for (int client = 0; client < 4; client++) {
            x.request(0, client, 1, 100 + client);
            Hall.beatAll(x, 0);
            Check.due("the value of the last, whichever client wrote it", x.read(0), 100 + client);
        }
        Check.due("in order", x.isInOrder(), true);
    }

    /** Histories: "to write is a request; it is answered in the first step behind which its entry is in the log of a LEADER, and agreed there," */
    static void aWriteIsAnsweredWhenItIsAgreed() {
        QuorumHall x = Hall.led(5);
        x.request(0, 0, 1, 7);
        x.request(0, 1, 1, 8);
        x.beat(0);
        Hall.deliver(x, 4);
        Check.due("in all logs", x.of(4, 3) + " " + x.act(0, 3) + " " + x.act(1, 3), "2 -1 -1");
        x.deliver(0);
        Check.due("one yes", x.act(0, 3) + " " + x.act(1, 3), "-1 -1");
        int steps = x.steps();
        x.deliver(0);
        Check.due("two yes, in that step", x.act(0, 3) + " " + x.act(1, 3), (steps + 1) + " " + (steps + 1));
        x.deliver(0);
        Hall.beatAll(x, 0);
        Check.due("the first such step stays", x.act(0, 3) + " " + x.act(1, 3), (steps + 1) + " " + (steps + 1));
    }

    /** Histories: "it is answered in the first step behind which its entry is in the log of a LEADER, and agreed there," */
    static void onlyWhatIsAgreedIsAnswered() {
        QuorumHall x = Hall.led(3);
        for (int i = 1; i <= 5; i++) x.request(0, 0, i, i);
        Hall.beatAll(x, 0);
        for (int i = 0; i < 5; i++) Check.due("act " + i, x.act(i, 3) != -1, i < 3);
        Hall.beatAll(x, 0);
        for (int i = 0; i < 5; i++) Check.due("act " + i, x.act(i, 3) != -1, true);
    }

    /** Histories: "however that came." */
    static void aWriteCanBeAnsweredByAnotherLeader() {
        QuorumHall x = Hall.led(3);
        x.request(0, 0, 1, 7);
        x.beat(0);
        x.deliver(0);
        Hall.loseAll(x);
        Hall.cutOff(x, 0, 3);
        x.pass(100);
        Hall.lead(x, 1, 0);
        Check.due("1 leads with the entry in its log", x.of(1, 0) + " " + x.of(1, 3) + " " + x.act(0, 3), "2 1 -1");
        Hall.agreeBesides0(x);
        Check.due("which is agreed with no entry of its own term ahead of another", x.act(0, 3), -1);
        x.request(1, 1, 1, 8);
        x.beat(1);
        Hall.loseTo(x, 0);
        x.deliver(0);
        int steps = x.steps();
        x.deliver(0);
        Check.due("both by one answer", x.act(0, 3) + " " + x.act(1, 3), (steps + 1) + " " + (steps + 1));
    }

    /** Histories: "however that came." */
    static void aWriteThatWasToldToTwoLeadersIsAnsweredByEither() {
        QuorumHall x = Hall.led(3);
        Hall.cutOff(x, 0, 3);
        x.request(0, 0, 1, 7);
        Hall.lead(x, 1, 0);
        x.request(1, 0, 1, 7);
        Check.due("in two logs, by two terms", x.entry(0, 1, 0) + " " + x.entry(1, 1, 0), "1 2");
        x.beat(1);
        x.lose(0);
        x.deliver(0);
        int steps = x.steps();
        x.deliver(0);
        Check.due("one act, answered by the second leader", x.acts() + ": " + x.act(0, 3), "1: " + (steps + 1));
    }

    /** Histories: "To read is to ask a machine that holds a lease," */
    static void noReadWithoutALease() {
        QuorumHall x = Hall.led(5);
        x.request(0, 0, 1, 7);
        x.spans(10, 0);
        x.beat(0);
        Hall.deliver(x, 4);
        x.deliver(0);
        Check.badState("two of five answered", () -> x.read(0));
        x.deliver(0);
        Check.due("three", x.read(0), 7);
        x.pass(9);
        Check.due("0.9 of 1", x.read(0), 7);
        x.pass(1);
        Check.badState("1", () -> x.read(0));
        x.deliver(0);
        Check.badState("an answer with the same clock", () -> x.read(0));
        x.beat(0);
        x.deliver(x.messages() - 1);
        Check.badState("sent, but not answered", () -> x.read(0));
        Hall.deliverLast(x);
        Check.badState("answered by one, the clock 1 of another is too few", () -> x.read(0));
        Hall.deliverAll(x);
        Check.due("answered by all", x.read(0), 7);
    }

    /** Histories: "and whose commit is that of an entry of its own term," */
    static void noReadWithoutAnAgreedEntryOfItsTerm() {
        QuorumHall x = Hall.led(3);
        Hall.beatAll(x, 0);
        Check.due("a lease", x.leases(), 1);
        Check.badState("the commit 0", () -> x.read(0));
        x.request(0, 0, 1, 7);
        Check.badState("an entry that is not agreed", () -> x.read(0));
        Hall.beatAll(x, 0);
        Check.due("agreed", x.read(0), 7);
        Hall.beatAll(x, 0);
        x.pass(100);
        Hall.lead(x, 1, -1);
        Hall.beatAll(x, 1);
        Check.due("a lease and a commit in term 2", x.leases() + " " + Hall.of(x, 1), "1 2 2 1 1 1 7 -1 1");
        Check.badState("the commit of an entry of term 1", () -> x.read(1));
        x.request(1, 0, 2, 8);
        Check.badState("one of term 2 that is not agreed", () -> x.read(1));
        Hall.beatAll(x, 1);
        Check.due("agreed", x.read(1), 8);
    }

    /** Histories: "for its value, which is answered at once." */
    static void aReadIsAnsweredAtOnce() {
        QuorumHall x = Hall.led(3);
        x.request(0, 0, 1, 7);
        Hall.beatAll(x, 0);
        x.request(0, 0, 2, 8);
        x.read(0);
        Check.due("began and was answered in its step", Hall.act(x, 2), "0 7 " + x.steps() + " " + x.steps());
        Check.due("no message", x.messages(), 0);
    }

    // ---- the history

    /** Histories: "The bench keeps a history, of at most 14 acts:" */
    static void fourteenReads() {
        QuorumHall x = Hall.led(3);
        x.request(0, 0, 1, 7);
        Hall.beatAll(x, 0);
        for (int i = 2; i <= 14; i++) {
            Check.due("read " + i, x.read(0), 7);
            Check.due("acts", x.acts(), i);
        }
        Check.badState("a fifteenth act, a read", () -> x.read(0));
        Check.badState("a fifteenth act, a write", () -> x.request(0, 0, 2, 8));
        Check.due("the fourteenth", Hall.act(x, 13), "0 7 " + x.steps() + " " + x.steps());
        Check.due("the write can be told once more", x.request(0, 0, 1, 7), 1);
        Check.due("in order", x.isInOrder(), true);
    }

    /** Histories: "The bench keeps a history, of at most 14 acts:" */
    static void fourteenWrites() {
        QuorumHall x = Hall.led(3);
        for (int i = 1; i <= 14; i++) {
            Check.due("write " + i, x.request(0, i % 4, 100 - i, i), i <= 4 ? i : 0);
            Check.due("acts", x.acts(), i);
        }
        Hall.beatAll(x, 0);
        Check.badState("a fifteenth act, a write", () -> x.request(0, 0, 1, 7));
        Hall.beatAll(x, 0);
        Check.badState("a fifteenth act, a read", () -> x.read(0));
        Check.due("the first can be told once more", x.request(0, 1, 99, 1), 1);
        Check.due("the last too, which is nowhere", x.request(0, 2, 86, 14), 0);
        x.begin(3);
        Check.due("none behind begin", x.acts(), 0);
    }

    /** Histories: "each with the step at which it began, that at which it was answered, if it was, and its value;" */
    static void stepsAndValueOfAnAct() {
        QuorumHall x = Hall.led(3);
        Check.due("steps ahead", x.steps(), 5);
        x.request(0, 0, 1, 0);
        x.request(0, 1, 1, 999);
        Check.due("two writes", Hall.act(x, 0) + "," + Hall.act(x, 1), "1 0 6 -1,1 999 7 -1");
        x.beat(0);
        x.deliver(0);
        x.deliver(1);
        Check.due("answered in step 10", Hall.act(x, 0) + "," + Hall.act(x, 1), "1 0 6 10,1 999 7 10");
        x.read(0);
        Check.due("a read in step 11", Hall.act(x, 2), "0 999 11 11");
    }

    /** Histories: "a step is each call of the methods from toggle() to propose() that does not throw," */
    static void eachCallIsAStep() {
        QuorumHall x = Hall.with(3);
        int due = 0;
        Check.due("none", x.steps(), due);
        x.toggle(2);
        Check.due("toggle", x.steps(), ++due);
        x.toggle(2);
        Check.due("toggle", x.steps(), ++due);
        x.cut(0, 2);
        Check.due("cut", x.steps(), ++due);
        x.cut(0, 2);
        Check.due("cut", x.steps(), ++due);
        x.rate(1, 1000);
        Check.due("rate", x.steps(), ++due);
        x.spans(100, 0);
        Check.due("spans", x.steps(), ++due);
        x.pass(100);
        Check.due("pass", x.steps(), ++due);
        x.stand(0);
        Check.due("stand", x.steps(), ++due);
        x.twice(0);
        Check.due("twice", x.steps(), ++due);
        x.lose(2);
        Check.due("lose", x.steps(), ++due);
        for (int i = 0; i < 4; i++) {
            x.deliver(0);
            Check.due("deliver", x.steps(), ++due);
        }
        x.request(0, 0, 1, 7);
        Check.due("request", x.steps(), ++due);
        x.beat(0);
        Check.due("beat", x.steps(), ++due);
        x.deliver(0);
        x.deliver(1);
        due += 2;
        x.read(0);
        Check.due("read", x.steps(), ++due);
        x.propose(0, 0, 7);
        Check.due("propose", x.steps(), ++due);
    }

    /** Histories: "a step is each call of the methods from toggle() to propose() that does not throw," */
    static void whatThrowsIsNoStep() {
        QuorumHall x = Hall.led(3);
        x.toggle(1);
        x.propose(0, 0, 5);
        int steps = x.steps();
        Check.noEntry("toggle", () -> x.toggle(3));
        Check.noEntry("cut", () -> x.cut(0, 3));
        Check.badArgument("cut", () -> x.cut(0, 0));
        Check.noEntry("rate", () -> x.rate(3, 1000));
        Check.badArgument("rate", () -> x.rate(0, 1));
        Check.badArgument("spans", () -> x.spans(0, 0));
        Check.badArgument("pass", () -> x.pass(0));
        Check.noEntry("deliver", () -> x.deliver(2));
        Check.badState("deliver", () -> x.deliver(0));
        Check.noEntry("lose", () -> x.lose(2));
        Check.noEntry("twice", () -> x.twice(2));
        Check.noEntry("stand", () -> x.stand(3));
        Check.badState("stand", () -> x.stand(0));
        Check.noEntry("beat", () -> x.beat(3));
        Check.badState("beat", () -> x.beat(2));
        Check.noEntry("request", () -> x.request(3, 0, 1, 1));
        Check.badArgument("request", () -> x.request(0, 0, 0, 1));
        Check.badState("request", () -> x.request(2, 0, 1, 1));
        Check.noEntry("read", () -> x.read(3));
        Check.badState("read", () -> x.read(0));
        Check.noEntry("propose", () -> x.propose(0, 4, 1));
        Check.badArgument("propose", () -> x.propose(0, 0, 1000));
        Check.badState("propose", () -> x.propose(1, 0, 1));
        Check.badArgument("begin", () -> x.begin(4));
        Check.due("no step", x.steps(), steps);
    }

    /** Histories: "whatever becomes of it," */
    static void aCallThatChangesNothingElseIsAStep() {
        QuorumHall x = Hall.led(3);
        x.request(0, 0, 5, 1);
        int steps = x.steps();
        x.request(0, 0, 5, 1);
        Check.due("a request that was there", x.steps(), steps + 1);
        x.rate(0, 1000);
        x.spans(100, 0);
        Check.due("a rate and a span that were so", x.steps(), steps + 3);
        x.beat(0);
        Hall.fill(x, 60);
        steps = x.steps();
        x.twice(0);
        Check.due("a like one that is lost", x.steps(), steps + 1);
        x.beat(0);
        Check.due("a beat of which all is lost", x.steps(), steps + 2);
        Hall.loseAll(x);
        x.propose(1, 0, 5);
        x.twice(0);
        x.deliver(0);
        steps = x.steps();
        x.deliver(1);
        Check.due("a message that is not answered", x.steps(), steps + 1);
    }

    /** Histories: "numbered from 1 behind begin()." */
    static void stepsAreNumberedFromOneBehindBegin() {
        QuorumHall x = Hall.led(3);
        x.request(0, 0, 1, 7);
        Check.due("step 6", x.act(0, 2), 6);
        x.begin(3);
        Check.due("none", x.steps(), 0);
        x.stand(0);
        Check.due("one", x.steps(), 1);
        x.deliver(0);
        Hall.deliverLast(x);
        x.request(0, 0, 1, 7);
        Check.due("step 4", x.act(0, 2), 4);
        Check.due("a new object", new QuorumHall().steps(), 0);
    }

    /** Histories: "A write that is told once more, by client and serial, is the same act." */
    static void aWriteThatIsToldOnceMore() {
        QuorumHall x = Hall.led(3);
        x.request(0, 1, 5, 50);
        String act = Hall.act(x, 0);
        x.request(0, 1, 5, 50);
        Check.due("one act, with its beginning", x.acts() + ": " + Hall.act(x, 0), "1: " + act);
        Hall.beatAll(x, 0);
        act = Hall.act(x, 0);
        x.request(0, 1, 5, 50);
        Check.due("also when it was answered", x.acts() + ": " + Hall.act(x, 0), "1: " + act);
        Hall.beatAll(x, 0);
        x.pass(100);
        Hall.lead(x, 2, -1);
        x.request(2, 1, 5, 50);
        Check.due("also by another leader", x.acts() + ": " + Hall.act(x, 0), "1: " + act);
        x.request(2, 1, 4, 50);
        x.request(2, 2, 5, 50);
        Check.due("but not with another serial, or another client", x.acts(), 3);
    }

    // ---- the order

    /** Histories: "The history is in order if all acts that were answered, and any of the other writes, can be put in one order," */
    static void aHistoryWithoutReadsIsInOrder() {
        QuorumHall x = Hall.with(3);
        Check.due("none", x.isInOrder(), true);
        x.stand(0);
        Hall.deliverAll(x);
        for (int i = 1; i <= 14; i++) x.request(0, i % 4, i, i);
        Check.due("14 writes, none answered", x.isInOrder(), true);
        for (int i = 0; i < 5; i++) Hall.beatAll(x, 0);
        Check.due("14 writes, all answered", x.isInOrder(), true);
    }

    /** Histories: "such that each read has the value of the last write ahead of it, or 0," */
    static void aReadOfTheLastWriteIsInOrderAndAnOlderOneIsNot() {
        QuorumHall x = Hall.twoLeases(11);
        Check.due("the last write", x.read(0) + " " + x.isInOrder(), "11 true");
        x.request(1, 1, 1, 22);
        Hall.agreeBesides0(x);
        Check.due("the last write", x.read(1) + " " + x.isInOrder(), "22 true");
        Check.due("an older one", x.read(0) + " " + x.isInOrder(), "11 false");
        Check.due("and so it stays", x.read(1) + " " + x.isInOrder(), "22 false");
    }

    /** Histories: "such that each read has the value of the last write ahead of it, or 0," */
    static void zeroCountsOnlyAheadOfAllWrites() {
        QuorumHall x = Hall.twoLeases(0);
        Check.due("a 0 that was written", x.read(0) + " " + x.isInOrder(), "0 true");
        x.request(1, 1, 1, 22);
        Hall.agreeBesides0(x);
        Check.due("a 0 behind another write", x.read(0) + " " + x.isInOrder(), "0 false");
    }

    /** Histories: "such that each read has the value of the last write ahead of it, or 0," */
    static void valuesCountNotWrites() {
        QuorumHall x = Hall.twoLeases(11);
        x.request(1, 1, 1, 22);
        x.request(1, 1, 2, 11);
        Hall.agreeBesides0(x);
        Check.due("the 11 of old, which another 11 suits", x.read(0) + " " + x.isInOrder(), "11 true");
    }

    /** Histories: "such that each read has the value of the last write ahead of it, or 0," */
    static void aSecondWriteOfTheValueMayBeTheLastThoughTheFirstSuitsTheReadToo() {
        QuorumHall x = twiceEleven();
        x.request(0, 2, 1, 22);
        answerSecondEleven(x);
        Check.due("11, 22, 11: the 22 began ahead of the answer of the second 11", x.read(0) + " " + x.isInOrder(), "11 true");
        agreeOn22Besides0(x);
        Check.due("the 22 is answered", x.act(3, 0) + " " + x.act(3, 1) + " " + (x.act(3, 3) == x.steps()), "1 22 true");
        Check.due("11 again: 11, 22, 11 is still an order", x.read(0) + " " + x.isInOrder(), "11 true");

        QuorumHall y = twiceEleven();
        answerSecondEleven(y);
        Check.due("11", y.read(0), 11);
        y.request(0, 2, 1, 22);
        agreeOn22Besides0(y);
        Check.due("but no 11 can come behind a 22 that began later", y.read(0) + " " + y.isInOrder(), "11 false");
    }

    /** Of two writes of 11 the first is answered, and read; machine 1 has the second one, but its answer is in the net. */
    private static QuorumHall twiceEleven() {
        QuorumHall x = Hall.led(3);
        x.rate(0, 500);
        x.rate(1, 1500);
        x.rate(2, 1500);
        x.request(0, 0, 1, 11);
        x.beat(0);
        Hall.deliverTo(x, QuorumHall.APPEND, 1);
        Hall.deliverTo(x, QuorumHall.APPEND, 2);
        x.request(0, 1, 1, 11);
        Hall.deliverAll(x);
        x.read(0);
        x.beat(0);
        Hall.deliverTo(x, QuorumHall.APPEND, 1);
        x.lose(0);
        Check.due("one of two answered, and a read", x.acts() + " " + (x.act(0, 3) < x.act(2, 2)) + " " + x.act(1, 3), "3 true -1");
        return x;
    }

    private static void answerSecondEleven(QuorumHall x) {
        x.deliver(0);
        Check.due("the second one is answered", x.act(1, 3), x.steps());
    }

    /** 1 leads, and agrees on the 22 with 2, while 0, which is slow, keeps its lease. */
    private static void agreeOn22Besides0(QuorumHall x) {
        x.pass(80);
        Hall.lead(x, 1, 0);
        x.request(1, 2, 1, 22);
        Hall.agreeBesides0(x);
    }

    /** Histories: "and an act that was answered ahead of the beginning of another one comes ahead of it." */
    static void aWriteAnsweredInTheStepAheadOfARead() {
        QuorumHall x = Hall.twoLeases(11);
        x.request(1, 1, 1, 22);
        x.beat(1);
        x.lose(0);
        x.deliver(0);
        QuorumHall y = Hall.twoLeases(11);
        y.request(1, 1, 1, 22);
        y.beat(1);
        y.lose(0);
        y.deliver(0);
        x.read(0);
        x.deliver(0);
        Check.due("answered one step behind the read", x.act(1, 3) - x.act(2, 2), 1);
        Check.due("it may come behind it", x.isInOrder(), true);
        y.deliver(0);
        y.read(0);
        Check.due("answered one step ahead of the read", y.act(2, 2) - y.act(1, 3), 1);
        Check.due("it comes ahead of it, so 11 is not the last", y.isInOrder(), false);
    }

    /** Histories: "and an act that was answered ahead of the beginning of another one comes ahead of it." */
    static void aReadAnsweredInTheStepAheadOfAWrite() {
        QuorumHall x = Hall.twoLeases(11);
        x.request(1, 1, 1, 22);
        Hall.agreeBesides0(x);
        x.read(0);
        x.request(0, 2, 1, 11);
        Check.due("a write that began one step behind the read", x.act(3, 2) - x.act(2, 3), 1);
        Check.due("comes behind it", x.isInOrder(), false);
        QuorumHall y = Hall.twoLeases(11);
        y.request(1, 1, 1, 22);
        Hall.agreeBesides0(y);
        y.request(0, 2, 1, 11);
        y.read(0);
        Check.due("a write that began one step ahead of the read", y.act(3, 2) - y.act(2, 2), 1);
        Check.due("may come ahead of it", y.isInOrder(), true);
    }

    /** Histories: "and an act that was answered ahead of the beginning of another one comes ahead of it." */
    static void readsHaveTheOrderOfTheirSteps() {
        QuorumHall x = Hall.twoLeases(11);
        x.request(1, 1, 1, 22);
        x.request(1, 2, 1, 33);
        x.read(0);
        Hall.agreeBesides0(x);
        Check.due("11, 33", x.read(1) + " " + x.isInOrder(), "33 true");
        QuorumHall y = Hall.twoLeases(11);
        y.request(1, 1, 1, 22);
        y.request(1, 2, 1, 33);
        Hall.agreeBesides0(y);
        y.read(1);
        Check.due("33, 11", y.read(0) + " " + y.isInOrder(), "11 false");
    }

    /** Histories: "and any of the other writes," */
    static void aWriteThatWasNotAnsweredMayCome() {
        QuorumHall x = Hall.twoLeases(11);
        x.request(0, 2, 1, 11);
        x.request(1, 1, 1, 22);
        Hall.agreeBesides0(x);
        Check.due("22, then 11, which the one without an answer wrote", x.read(1) + " " + x.read(0) + " " + x.isInOrder(), "22 11 true");
        Check.due("11 again", x.read(0) + " " + x.isInOrder(), "11 true");
        Check.due("22 again, which was written once", x.read(1) + " " + x.isInOrder(), "22 false");
    }

    /** Histories: "and any of the other writes," */
    static void aWriteThatWasNotAnsweredComesOnceIfAtAll() {
        QuorumHall x = Hall.twoLeases(11);
        x.request(0, 2, 1, 11);
        x.request(0, 2, 2, 22);
        x.request(1, 1, 1, 22);
        Hall.agreeBesides0(x);
        Check.due("22, 11, 22, by two that were not answered", x.read(1) + " " + x.read(0) + " " + x.read(1) + " " + x.isInOrder(),
            "22 11 22 true");
        Check.due("11 again, which none is left for", x.read(0) + " " + x.isInOrder(), "11 false");
    }

    /** Histories: "and any of the other writes," */
    static void aWriteThatWasNotAnsweredNeedNotCome() {
        QuorumHall x = Hall.led(3);
        x.request(0, 0, 1, 11);
        Hall.beatAll(x, 0);
        x.request(0, 1, 1, 22);
        for (int i = 0; i < 3; i++) Check.due("11", x.read(0) + " " + x.isInOrder(), "11 true");
        x.toggle(0);
        x.toggle(0);
        Check.due("nor later", x.isInOrder() + " " + x.act(1, 3), "true -1");
    }

    /** Histories: "all acts that were answered," */
    static void aWriteThatWasAnsweredMustCome() {
        QuorumHall x = Hall.twoLeases(11);
        x.request(1, 1, 1, 22);
        x.request(1, 2, 1, 11);
        x.request(1, 3, 1, 33);
        Hall.agreeBesides0(x);
        Check.due("three that were answered at once, of which the 11 may be the last", x.read(0) + " " + x.isInOrder(), "11 true");
        Check.due("but 33 behind it may not", x.read(1) + " " + x.isInOrder(), "33 false");
    }
}
