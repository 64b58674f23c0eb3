/** What DOC.md says under "Decisions": a test for each sentence, or part of one. */
public final class WordsOfDecisionsTest {
    public static void main(String[] args) throws IllegalAccessException {
        Check.runAll(WordsOfDecisionsTest.class);
    }

    /** The first message of that kind to that machine is delivered, and the answer, if one is sent. */
    private static void exchange(QuorumHall x, int kind, int to) {
        if (Hall.deliverTo(x, kind, to) > 0) Hall.deliverLast(x);
    }

    /** Machine 0 of three proposed the value, 1 promised, so that 0 has gone on; the two ACCEPTs alone are left. */
    private static QuorumHall goneOn(int value) {
        QuorumHall x = Hall.with(3);
        x.propose(0, 0, value);
        x.lose(1);
        x.deliver(0);
        Check.due("goes on", x.deliver(0), 2);
        return x;
    }

    /** Leaves a machine of five with the ballot promised, made by the one that the ballot tells. */
    private static void promise(QuorumHall x, int machine, int ballot) {
        int maker = ballot % 8;
        for (int i = 0; i < 64 && x.decision(maker, 0, 0) < ballot; i++) {
            Hall.loseAll(x);
            x.propose(maker, 0, 500);
        }
        if (maker != machine) Hall.deliverTo(x, QuorumHall.PREPARE, machine);
        Hall.loseAll(x);
        Check.due("promised by " + machine, x.decision(machine, 0, 0), ballot);
    }

    /** Decisions: "apart from all else." */
    static void ballotsAreNoTerms() {
        QuorumHall x = Hall.with(3);
        x.propose(0, 0, 5);
        Hall.deliverAll(x);
        x.stand(0);
        Check.due("the first term", x.of(0, 1), 1);
    }

    // ---- what is kept

    /** Decisions: "There are the decisions 0 to 3," */
    static void fourDecisions() {
        QuorumHall x = Hall.with(3);
        for (int d = 0; d < 4; d++) Check.due("decision " + d, x.propose(1, d, d), 1);
        Check.noEntry("decision 4", () -> x.propose(1, 4, 0));
        Check.noEntry("decision -1", () -> x.propose(1, -1, 0));
        Check.noEntry("decision 4", () -> x.decision(1, 4, 0));
        Check.noEntry("decision -1", () -> x.decision(1, -1, 0));
    }

    /** Decisions: "apart from all else." */
    static void decisionsAreApartFromEachOther() {
        QuorumHall x = Hall.with(5);
        x.propose(0, 0, 10);
        x.propose(0, 3, 13);
        x.propose(1, 1, 11);
        x.propose(2, 2, 12);
        Hall.deliverAll(x);
        for (int m = 0; m < 5; m++) {
            Check.due("machine " + m + " accepted", x.decision(m, 0, 2) + " " + x.decision(m, 1, 2) + " " + x.decision(m, 2, 2)
                + " " + x.decision(m, 3, 2), "10 11 12 13");
        }
        Check.due("0 knows its own", x.decision(0, 0, 3) + " " + x.decision(0, 1, 3) + " " + x.decision(0, 3, 3), "10 -1 13");
        Check.due("ballots of one count for no other", x.propose(0, 1, 0) + " " + x.propose(0, 2, 0), "8 8");
    }

    /** Decisions: "apart from all else." */
    static void decisionsAreApartFromLeaders() {
        QuorumHall x = Hall.led(3);
        x.propose(1, 0, 5);
        Hall.deliverAll(x);
        Check.due("a leader is not needed, and stays what it is", Hall.of(x, 0), "2 1 0 0 0 0 -1 1");
        Check.due("no lease, no act, no commit", x.leases() + " " + x.acts() + " " + x.of(1, 4), "0 0 0");
        Hall.beatAll(x, 0);
        x.propose(2, 1, 6);
        Hall.deliverAll(x);
        Check.due("a promise to a leader does not matter", x.decision(2, 1, 3), 6);
        Hall.crash(x, 1);
        x.propose(1, 2, 7);
        Hall.deliverAll(x);
        Check.due("nor one to nobody", x.decision(1, 2, 3), 7);
    }

    /** Decisions: "For each a machine keeps the greatest ballot that it has promised, -1 at first, and the ballot and value that it accepted last, or none." */
    static void nothingIsPromisedOrAcceptedAtFirst() {
        QuorumHall x = Hall.with(5);
        for (int m = 0; m < 5; m++) {
            for (int d = 0; d < 4; d++) Check.due("at first", Hall.decision(x, m, d), "-1 -1 -1 -1");
        }
    }

    /** Decisions: "For each a machine keeps the greatest ballot that it has promised," */
    static void whatWasPromisedAndAcceptedIsKeptByACrash() {
        QuorumHall x = goneOn(70);
        x.deliver(0);
        x.propose(2, 0, 71);
        Hall.deliverTo(x, QuorumHall.PREPARE, 1);
        for (int i = 0; i < 2; i++) {
            x.toggle(0);
            x.toggle(1);
            x.toggle(2);
            Check.due("0 accepted", Hall.decision(x, 0, 0), "0 0 70 -1");
            Check.due("1 promised more since it accepted", Hall.decision(x, 1, 0), "2 0 70 -1");
            Check.due("2 promised its own", Hall.decision(x, 2, 0), "2 -1 -1 -1");
        }
        Check.due("so that a ballot is not made twice", x.propose(2, 0, 72), 10);
    }

    /** Decisions: "and the ballot and value that it accepted last, or none." */
    static void theLastThatWasAccepted() {
        QuorumHall x = Hall.with(5);
        for (int machine = 0; machine <= 4; machine += 4) {
            x.propose(machine, 0, 10 + machine);
            exchange(x, QuorumHall.PREPARE, 1);
            exchange(x, QuorumHall.PREPARE, 2);
            Hall.deliverTo(x, QuorumHall.ACCEPT, 3);
            Hall.loseAll(x);
            String due = machine + " " + machine + " " + (10 + machine) + " -1";
            Check.due("3 accepted that of " + machine, Hall.decision(x, 3, 0), due);
        }
    }

    // ---- ballots

    /** Decisions: "A ballot is 8 times a round and the machine that makes it." */
    static void ballotsOfEachMachine() {
        QuorumHall x = Hall.with(5);
        for (int round = 0; round < 6; round++) {
            for (int m = 0; m < 5; m++) Check.due("round " + round + " of " + m, x.propose(m, 2, 0), 8 * round + m);
        }
    }

    /** Decisions: "To propose a value: the machine takes the least ballot of its own that is above that it has promised," */
    static void theLeastOfItsOwnAboveWhatItPromised() {
        int[][] due = {{0, 4, 8}, {0, 8, 16}, {4, 3, 4}, {4, 11, 12}, {4, 4, 12}, {3, 4, 11}, {3, 2, 3}, {2, 3, 10}, {1, 16, 17},
            {1, 17, 25}, {1, 18, 25}, {0, 9, 16}};
        for (int[] d : due) {
            QuorumHall x = Hall.with(5);
            promise(x, d[0], d[1]);
            Check.due("machine " + d[0] + " that promised " + d[1], x.propose(d[0], 0, 1), d[2]);
        }
        Check.due("nothing promised", Hall.with(3).propose(0, 0, 1), 0);
    }

    /** Decisions: "promises it, has its own answer, and sends PREPARE with it to all others." */
    static void whatAProposalSends() {
        for (int m = 0; m < 5; m++) {
            QuorumHall x = Hall.with(5);
            x.propose(m, 3, 77);
            x.propose(m, 3, 77);
            Check.due("promised", Hall.decision(x, m, 3), (8 + m) + " -1 -1 -1");
            Check.due("eight", x.messages(), 8);
            for (int i = 0; i < 4; i++) {
                int other = i < m ? i : i + 1;
                Check.due("PREPARE", Hall.message(x, i), "4 " + m + " " + other + " " + m + " 0");
                Check.due("PREPARE", Hall.message(x, 4 + i), "4 " + m + " " + other + " " + (8 + m) + " 0");
            }
        }
    }

    /** Decisions: "promises it, has its own answer," */
    static void itsOwnAnswerIsOneOfMost() {
        QuorumHall x = Hall.with(3);
        x.propose(2, 0, 5);
        x.deliver(0);
        Check.due("one other of three", Hall.deliverLast(x), 2);
        QuorumHall y = goneOn(70);
        Hall.loseAll(y);
        y.propose(0, 0, 71);
        exchange(y, QuorumHall.PREPARE, 2);
        Check.due("what it accepted itself is in its own answer", Hall.decision(y, 0, 0), "8 8 70 -1");
    }

    // ---- PREPARE

    /** Decisions: "PREPARE: if the ballot is above that it has promised, it promises it, and answers PROMISED, with the ballot," */
    static void aBallotAboveIsPromised() {
        QuorumHall x = Hall.with(3);
        x.propose(0, 0, 5);
        Check.due("0 is above none", x.deliver(0), 1);
        Check.due("promised", Hall.decision(x, 1, 0), "0 -1 -1 -1");
        Check.due("PROMISED", Hall.message(x, 1), "5 1 0 0 0");
        x.propose(2, 0, 5);
        Check.due("2 is above 0", Hall.deliverTo(x, QuorumHall.PREPARE, 1), 1);
        Check.due("promised", Hall.decision(x, 1, 0), "2 -1 -1 -1");
        Check.due("PROMISED", Hall.message(x, x.messages() - 1), "5 1 2 2 0");
        QuorumHall y = Hall.with(3);
        y.propose(0, 0, 5);
        Hall.deliverTo(y, QuorumHall.PREPARE, 2);
        y.propose(1, 0, 5);
        Check.due("above by one", Hall.deliverTo(y, QuorumHall.PREPARE, 2), 1);
    }

    /** Decisions: "and what it accepted last, if anything." */
    static void whatWasAcceptedLastIsTold() {
        QuorumHall x = goneOn(70);
        Hall.deliver(x, 1);
        Hall.loseAll(x);
        x.propose(2, 0, 71);
        Hall.deliverTo(x, QuorumHall.PREPARE, 1);
        Hall.deliverLast(x);
        Check.due("the value that 1 accepted", Hall.decision(x, 2, 0), "2 2 70 -1");
        QuorumHall y = Hall.with(3);
        y.propose(2, 0, 71);
        exchange(y, QuorumHall.PREPARE, 1);
        Check.due("nothing accepted", Hall.decision(y, 2, 0), "2 2 71 -1");
    }

    /** Decisions: "and what it accepted last, if anything." */
    static void aValueOfZeroAndABallotOfZeroAreSomething() {
        QuorumHall x = goneOn(0);
        x.deliver(0);
        Hall.loseAll(x);
        Check.due("ballot 0 and value 0", Hall.decision(x, 1, 0), "0 0 0 -1");
        x.propose(2, 0, 71);
        exchange(x, QuorumHall.PREPARE, 1);
        Check.due("the value", Hall.decision(x, 2, 0), "2 2 0 -1");
    }

    /** Decisions: "Otherwise it does not answer." */
    static void theSameBallotOrALowerOneIsNotAnswered() {
        QuorumHall x = Hall.with(3);
        x.propose(0, 0, 5);
        x.twice(0);
        Check.due("first", x.deliver(0), 1);
        Check.due("the same", x.deliver(1), 0);
        Check.due("a like one is not answered either", x.messages(), 2);
        x.propose(1, 0, 5);
        Check.due("1 of its own", x.decision(1, 0, 0), 1);
        x.propose(0, 0, 5);
        x.propose(0, 0, 5);
        Hall.deliverTo(x, QuorumHall.PREPARE, 1);
        Check.due("8", x.decision(1, 0, 0), 8);
        x.propose(2, 0, 5);
        Check.due("2 is lower", Hall.deliverTo(x, QuorumHall.PREPARE, 1) + Hall.deliverTo(x, QuorumHall.PREPARE, 1), 1);
        Check.due("the greatest stays", x.decision(1, 0, 0), 16);
    }

    // ---- PROMISED

    /** Decisions: "PROMISED: the one that proposed, if it has promised nothing greater since," */
    static void itDoesNotGoOnIfItPromisedAGreaterOne() {
        QuorumHall x = Hall.with(3);
        x.propose(0, 0, 5);
        x.deliver(0);
        x.propose(1, 0, 6);
        Hall.deliverTo(x, QuorumHall.PREPARE, 0);
        Check.due("0 promised 1", x.decision(0, 0, 0), 1);
        Check.due("its PROMISED", Hall.deliverTo(x, QuorumHall.PROMISED, 0), 0);
        Check.due("it accepted nothing", Hall.decision(x, 0, 0), "1 -1 -1 -1");
        QuorumHall y = Hall.with(3);
        y.propose(1, 0, 6);
        y.deliver(1);
        y.propose(0, 0, 5);
        Hall.deliverTo(y, QuorumHall.PREPARE, 1);
        Check.due("1 got a lower one", y.decision(1, 0, 0), 1);
        Check.due("and goes on", Hall.deliverTo(y, QuorumHall.PROMISED, 1), 2);
    }

    /** Decisions: "and has not gone on:" */
    static void itGoesOnOnce() {
        QuorumHall x = Hall.with(5);
        x.propose(0, 0, 5);
        Hall.deliver(x, 4);
        Check.due("one", x.deliver(0), 0);
        Check.due("two", x.deliver(0), 4);
        Check.due("three", x.deliver(0), 0);
        Check.due("four", x.deliver(0), 0);
        Check.due("four ACCEPTs", x.messages(), 4);
    }

    /** Decisions: "and has not gone on:" */
    static void anAnswerBehindGoingOnIsNoAcceptance() {
        QuorumHall x = Hall.with(5);
        x.propose(0, 0, 5);
        Hall.deliver(x, 4);
        x.deliver(0);
        x.deliver(0);
        Hall.deliverTo(x, QuorumHall.ACCEPT, 1);
        Hall.deliverLast(x);
        x.deliver(0);
        x.deliver(0);
        Check.due("one accepted, four promised", x.decision(0, 0, 3), -1);
    }

    /** Decisions: "with most, its own with these, it goes on:" */
    static void mostPromised() {
        QuorumHall x = Hall.with(5);
        x.propose(4, 0, 5);
        x.twice(0);
        exchange(x, QuorumHall.PREPARE, 0);
        exchange(x, QuorumHall.PREPARE, 0);
        Check.due("two of five", Hall.decision(x, 4, 0), "4 -1 -1 -1");
        x.deliver(0);
        x.twice(x.messages() - 1);
        Check.due("three of five", Hall.deliverLast(x), 4);
        QuorumHall y = Hall.with(5);
        y.propose(4, 0, 5);
        y.deliver(0);
        y.twice(y.messages() - 1);
        Hall.deliverLast(y);
        Hall.deliverLast(y);
        Check.due("one that is told twice is one", Hall.decision(y, 4, 0), "4 -1 -1 -1");
    }

    /** Decisions: "its value becomes that which was accepted with the greatest ballot among the answers, if there is one;" */
    static void theGreatestBallotAmongTheAnswers() {
        for (int first = 1; first <= 3; first += 2) {
            QuorumHall x = Hall.with(5);
            acceptAlone(x, 1, 2, 21);
            acceptAlone(x, 3, 4, 43);
            x.propose(0, 0, 99);
            exchange(x, QuorumHall.PREPARE, first);
            exchange(x, QuorumHall.PREPARE, 4 - first);
            Check.due("that of ballot 3, whichever came first", Hall.decision(x, 0, 0), "8 8 43 -1");
        }
    }

    /** Decisions: "its value becomes that which was accepted with the greatest ballot among the answers, if there is one;" */
    static void theGreatestBallotMayHaveTheLeastValue() {
        for (int first = 1; first <= 3; first += 2) {
            QuorumHall x = Hall.with(5);
            acceptAlone(x, 1, 2, 999);
            acceptAlone(x, 3, 4, 0);
            x.propose(0, 0, 500);
            exchange(x, QuorumHall.PREPARE, first);
            exchange(x, QuorumHall.PREPARE, 4 - first);
            Check.due("that of ballot 3, whichever came first", Hall.decision(x, 0, 0), "8 8 0 -1");
        }
    }

    /** The machine accepts its own value alone: the helper and 0 promised its first ballot. */
    private static void acceptAlone(QuorumHall x, int machine, int helper, int value) {
        x.propose(machine, 0, value);
        exchange(x, QuorumHall.PREPARE, helper);
        exchange(x, QuorumHall.PREPARE, 0);
        Hall.loseAll(x);
        Check.due("accepted alone", Hall.decision(x, machine, 0), machine + " " + machine + " " + value + " -1");
    }

    /** Decisions: "its value becomes that which was accepted with the greatest ballot among the answers, if there is one;" */
    static void itsOwnAnswerMayHaveTheGreatestBallot() {
        QuorumHall x = Hall.with(5);
        acceptAlone(x, 1, 2, 21);
        acceptAlone(x, 3, 4, 43);
        Check.due("9", x.propose(1, 0, 98), 9);
        Check.due("11", x.propose(3, 0, 99), 11);
        Hall.loseTo(x, 2);
        Hall.loseTo(x, 4);
        Hall.loseTo(x, 0);
        Check.due("two PREPAREs", x.messages(), 2);
        x.deliver(1);
        Hall.deliverLast(x);
        x.propose(3, 0, 97);
        exchange(x, QuorumHall.PREPARE, 1);
        exchange(x, QuorumHall.PREPARE, 2);
        Check.due("its own of ballot 3, not that of ballot 1", Hall.decision(x, 3, 0), "19 19 43 -1");
    }

    /** Decisions: "its value becomes that which was accepted with the greatest ballot among the answers, if there is one;" */
    static void withoutAnyItKeepsItsValue() {
        QuorumHall x = Hall.with(5);
        acceptAlone(x, 1, 2, 21);
        x.propose(3, 0, 43);
        exchange(x, QuorumHall.PREPARE, 0);
        exchange(x, QuorumHall.PREPARE, 4);
        Check.due("1 was not asked", Hall.decision(x, 3, 0), "3 3 43 -1");
    }

    /** Decisions: "it accepts it itself, and sends ACCEPT, with the ballot and value, to all others." */
    static void itAcceptsAndSendsToAllOthers() {
        QuorumHall x = Hall.with(5);
        x.propose(2, 1, 555);
        Hall.deliver(x, 4);
        x.deliver(0);
        Check.due("four are sent", x.deliver(0), 4);
        Check.due("accepted, itself", Hall.decision(x, 2, 1), "2 2 555 -1");
        int[] others = {0, 1, 3, 4};
        for (int i = 0; i < 4; i++) Check.due("ACCEPT", Hall.message(x, 2 + i), "6 2 " + others[i] + " 2 0");
        for (int other : others) {
            Hall.deliverTo(x, QuorumHall.ACCEPT, other);
            Check.due("ballot and value", Hall.decision(x, other, 1), "2 2 555 -1");
        }
    }

    // ---- ACCEPT and ACCEPTED

    /** Decisions: "ACCEPT: if the ballot is not below that it has promised, it promises and accepts it, and answers ACCEPTED, with the ballot." */
    static void aBallotNotBelowIsAccepted() {
        QuorumHall x = goneOn(70);
        Check.due("1 promised the same", x.deliver(0), 1);
        Check.due("accepted", Hall.decision(x, 1, 0), "0 0 70 -1");
        Check.due("ACCEPTED", Hall.message(x, 1), "7 1 0 0 0");
        Check.due("2 promised nothing", x.deliver(0), 1);
        Check.due("accepted, and promised by that", Hall.decision(x, 2, 0), "0 0 70 -1");
        Check.due("ACCEPTED", Hall.message(x, 1), "7 2 0 0 0");
    }

    /** Decisions: "ACCEPT: if the ballot is not below that it has promised, it promises and accepts it, and answers ACCEPTED, with the ballot." */
    static void theSameAcceptAgainIsAnsweredAgain() {
        QuorumHall x = goneOn(70);
        x.twice(0);
        x.deliver(0);
        Check.due("once more", x.deliver(1), 1);
        Check.due("ACCEPTED", Hall.message(x, 2), "7 1 0 0 0");
    }

    /** Decisions: "ACCEPT: if the ballot is not below that it has promised," */
    static void aBallotBelowIsNotAccepted() {
        QuorumHall x = goneOn(70);
        x.propose(2, 0, 71);
        Check.due("2 promised 2", Hall.deliverTo(x, QuorumHall.ACCEPT, 2), 0);
        Check.due("and accepted nothing", Hall.decision(x, 2, 0), "2 -1 -1 -1");
        QuorumHall y = goneOn(70);
        y.propose(1, 0, 71);
        Check.due("below by one", Hall.deliverTo(y, QuorumHall.ACCEPT, 1), 0);
        Check.due("nothing", Hall.decision(y, 1, 0), "1 -1 -1 -1");
    }

    /** Decisions: "ACCEPT: if the ballot is not below that it has promised, it promises and accepts it," */
    static void acceptingPromisesAsWell() {
        QuorumHall x = Hall.with(3);
        x.propose(1, 0, 60);
        Hall.loseTo(x, 0);
        x.propose(2, 0, 70);
        exchange(x, QuorumHall.PREPARE, 0);
        Check.due("2 has gone on", Hall.decision(x, 2, 0), "2 2 70 -1");
        Check.due("1 promised its own", x.decision(1, 0, 0), 1);
        Hall.deliverTo(x, QuorumHall.ACCEPT, 1);
        Check.due("and now 2", Hall.decision(x, 1, 0), "2 2 70 -1");
        Check.due("so that its next is above", x.propose(1, 0, 61), 9);
        Check.due("a PREPARE of the ballot that was accepted is not answered", Hall.deliverTo(x, QuorumHall.PREPARE, 1), 0);
    }

    /** Decisions: "ACCEPTED: the one that proposed counts it; with most, its own with these, the value is decided, as far as it knows." */
    static void mostAccepted() {
        QuorumHall x = Hall.with(5);
        x.propose(3, 0, 88);
        Hall.deliver(x, 8);
        Check.due("four ACCEPTs", x.messages(), 4);
        x.deliver(0);
        x.twice(x.messages() - 1);
        Hall.deliverLast(x);
        Hall.deliverLast(x);
        Check.due("two of five, one told twice", Hall.decision(x, 3, 0), "3 3 88 -1");
        x.deliver(0);
        Hall.deliverLast(x);
        Check.due("three of five", Hall.decision(x, 3, 0), "3 3 88 88");
        for (int other : new int[] {0, 1, 2, 4}) Check.due("the others don't know", x.decision(other, 0, 3), -1);
    }

    /** Decisions: "ACCEPTED: the one that proposed counts it;" */
    static void anAcceptanceOfAnOlderBallotIsNotCounted() {
        QuorumHall x = goneOn(70);
        x.deliver(0);
        x.propose(0, 0, 71);
        exchange(x, QuorumHall.PREPARE, 2);
        Check.due("gone on with 8, and the value 70", Hall.decision(x, 0, 0), "8 8 70 -1");
        Hall.deliverTo(x, QuorumHall.ACCEPTED, 0);
        Check.due("an ACCEPTED of ballot 0", x.decision(0, 0, 3), -1);
        exchange(x, QuorumHall.ACCEPT, 1);
        Check.due("one of ballot 8", x.decision(0, 0, 3), 70);
    }

    /** Decisions: "ACCEPTED: the one that proposed counts it;" */
    static void itIsCountedThoughAGreaterBallotWasPromised() {
        QuorumHall x = goneOn(70);
        x.deliver(0);
        x.propose(2, 0, 71);
        Hall.deliverTo(x, QuorumHall.PREPARE, 0);
        Check.due("0 promised 2", Hall.decision(x, 0, 0), "2 0 70 -1");
        Hall.deliverTo(x, QuorumHall.ACCEPTED, 0);
        Check.due("decided all the same", Hall.decision(x, 0, 0), "2 0 70 70");
    }

    /** Decisions: "What was decided stays known." */
    static void whatWasDecidedStaysKnown() {
        QuorumHall x = Hall.with(3);
        x.propose(0, 0, 70);
        Hall.deliverAll(x);
        x.toggle(0);
        Check.due("down", x.decision(0, 0, 3), 70);
        x.toggle(0);
        Check.due("up again", x.decision(0, 0, 3), 70);
        x.propose(0, 0, 71);
        Check.due("while it proposes anew", Hall.decision(x, 0, 0), "8 0 70 70");
        Hall.loseAll(x);
        x.propose(1, 0, 72);
        x.propose(1, 0, 73);
        Hall.deliverAll(x);
        Check.due("when another one does", Hall.decision(x, 0, 0), "9 9 70 70");
        Check.due("which then knows too", x.decision(1, 0, 3), 70);
    }

    /** Decisions: "A proposal under way, and what was counted for it, is not kept by a crash;" */
    static void aProposalIsNotKeptAheadOfGoingOn() {
        QuorumHall x = Hall.with(3);
        x.propose(0, 0, 70);
        Hall.deliver(x, 2);
        Hall.crash(x, 0);
        Check.due("a PROMISED", x.deliver(0), 0);
        Check.due("another", x.deliver(0), 0);
        Check.due("did nothing", Hall.decision(x, 0, 0), "0 -1 -1 -1");
        QuorumHall y = Hall.with(5);
        y.propose(0, 0, 70);
        exchange(y, QuorumHall.PREPARE, 1);
        Hall.crash(y, 0);
        y.propose(0, 0, 71);
        Hall.deliverTo(y, QuorumHall.PREPARE, 2);
        Hall.deliverTo(y, QuorumHall.PREPARE, 2);
        Hall.deliverLast(y);
        Check.due("what 1 promised is not counted for the new one", y.decision(0, 0, 1), -1);
        exchange(y, QuorumHall.PREPARE, 3);
        exchange(y, QuorumHall.PREPARE, 3);
        Check.due("what 2 and 3 promised is", Hall.decision(y, 0, 0), "8 8 71 -1");
    }

    /** Decisions: "A proposal under way, and what was counted for it, is not kept by a crash;" */
    static void aProposalIsNotKeptBehindGoingOn() {
        QuorumHall x = goneOn(70);
        Hall.deliver(x, 2);
        Hall.crash(x, 0);
        Hall.deliverAll(x);
        Check.due("two ACCEPTED did nothing, but the value is kept", Hall.decision(x, 0, 0), "0 0 70 -1");
        QuorumHall y = goneOn(70);
        y.deliver(0);
        Hall.crash(y, 1);
        Hall.deliverLast(y);
        Check.due("the crash of another one does not matter", y.decision(0, 0, 3), 70);
    }

    /** Decisions: "A proposal under way, and what was counted for it, is not kept by a crash;" */
    static void noDecisionOfTheMachineIsKeptUnderWay() {
        QuorumHall x = Hall.with(3);
        for (int d = 0; d < 4; d++) x.propose(0, d, 70 + d);
        Hall.deliver(x, 8);
        Hall.crash(x, 0);
        Hall.deliverAll(x);
        for (int d = 0; d < 4; d++) Check.due("decision " + d, Hall.decision(x, 0, d), "0 -1 -1 -1");
    }

    /** Decisions: "a new one of the same machine for the same decision takes its place." */
    static void aNewProposalTakesThePlace() {
        QuorumHall x = Hall.with(5);
        x.propose(0, 0, 70);
        exchange(x, QuorumHall.PREPARE, 1);
        x.deliver(0);
        x.propose(0, 0, 71);
        Hall.deliverTo(x, QuorumHall.PROMISED, 0);
        Check.due("an answer to ballot 0", Hall.decision(x, 0, 0), "8 -1 -1 -1");
        for (int i = x.messages() - 1; i >= 0; i--) {
            if (x.message(i, 3) == 0) x.lose(i);
        }
        exchange(x, QuorumHall.PREPARE, 3);
        Check.due("what 1 and 2 promised for ballot 0 is not counted", Hall.decision(x, 0, 0), "8 -1 -1 -1");
        exchange(x, QuorumHall.PREPARE, 4);
        Check.due("two answers to ballot 8", Hall.decision(x, 0, 0), "8 8 71 -1");
    }

    /** Decisions: "a new one of the same machine for the same decision takes its place." */
    static void aNewProposalBehindGoingOnTakesThePlace() {
        QuorumHall x = goneOn(70);
        Hall.deliver(x, 2);
        x.propose(0, 0, 71);
        x.deliver(0);
        x.deliver(0);
        Check.due("two ACCEPTED of ballot 0", Hall.decision(x, 0, 0), "8 0 70 -1");
        exchange(x, QuorumHall.PREPARE, 1);
        Check.due("it goes on anew", Hall.decision(x, 0, 0), "8 8 70 -1");
    }

    /** Decisions: "for the same decision takes its place." */
    static void oneOfAnotherDecisionTakesNoPlace() {
        QuorumHall x = Hall.with(3);
        x.propose(0, 0, 70);
        x.propose(0, 1, 71);
        Hall.deliverAll(x);
        Check.due("both", x.decision(0, 0, 3) + " " + x.decision(0, 1, 3), "70 71");
    }

    /** Decisions: "a new one of the same machine" */
    static void oneOfAnotherMachineTakesNoPlace() {
        QuorumHall x = Hall.with(3);
        x.propose(2, 0, 72);
        x.propose(1, 0, 71);
        exchange(x, QuorumHall.PREPARE, 0);
        Check.due("2 goes on", Hall.decision(x, 2, 0), "2 2 72 -1");
    }
}
