/** What DOC.md says under "Leases": a test for each sentence, or part of one. */
public final class WordsOfLeasesTest {
    public static void main(String[] args) throws IllegalAccessException {
        Check.runAll(WordsOfLeasesTest.class);
    }

    /** One beat of machine 0, of which that machine gets its APPEND, and 0 the answer. */
    private static void yesOf(QuorumHall x, int machine) {
        Hall.loseAll(x);
        x.beat(0);
        Hall.deliverTo(x, QuorumHall.APPEND, machine);
        Hall.deliverLast(x);
        Hall.loseAll(x);
    }

    // ---- span and bound

    /** Leases: "The span is a float, 10 at first," */
    static void theSpanIsTenAtFirst() {
        QuorumHall x = Hall.led(3);
        yesOf(x, 1);
        Check.due("a lease", x.lease(0), 10f);
        x.pass(99);
        Check.due("a promise, a little ahead of 10", x.of(1, 6), 0);
        x.pass(1);
        Check.due("and at 10", x.of(1, 6), -1);
        QuorumHall y = Hall.with(3);
        Hall.crash(y, 2);
        y.pass(99);
        Check.due("one that was down, a little ahead of 10", y.of(2, 6), 2);
        y.pass(1);
        Check.due("and at 10", y.of(2, 6), -1);
    }

    /** Leases: "The span is a float, 10 at first," */
    static void theSpanIsTenAgainBehindBegin() {
        QuorumHall x = Hall.led(3);
        x.spans(33, 50);
        x.begin(3);
        x.stand(0);
        Hall.deliverAll(x);
        yesOf(x, 1);
        Check.due("a lease", x.lease(0), 10f);
    }

    /** Leases: "and the bound another one, 0 at first;" */
    static void theBoundIsZeroAtFirst() {
        QuorumHall x = Hall.led(3);
        yesOf(x, 1);
        Check.due("the whole span", x.lease(0), 10f);
        x.spans(100, 25);
        yesOf(x, 1);
        Check.due("less a quarter", x.lease(0), 7.5f);
        Check.due("a promise is for the whole span", afterPassing(x, 99), 0);
        Check.due("and no longer", afterPassing(x, 1), -1);
    }

    private static int afterPassing(QuorumHall x, int time) {
        x.pass(time);
        return x.of(1, 6);
    }

    /** Leases: "each counts as it is when it is used." */
    static void whatWasPromisedStaysWhenTheSpanIsAnother() {
        QuorumHall x = Hall.led(3);
        x.spans(30, 0);
        yesOf(x, 1);
        x.spans(1000, 90);
        Check.due("the lease is what it was", x.lease(0), 3f);
        Check.due("the promise too", afterPassing(x, 29), 0);
        Check.due("to its end", afterPassing(x, 1), -1);
        QuorumHall y = Hall.with(3);
        y.spans(30, 0);
        Hall.crash(y, 1);
        y.spans(1, 0);
        Check.due("of one that was down", afterPassing(y, 29), 1);
        Check.due("to its end", afterPassing(y, 1), -1);
    }

    /** Leases: "each counts as it is when it is used." */
    static void theSpanCountsWhenTheAppendIsDealtWith() {
        QuorumHall x = Hall.led(3);
        x.spans(30, 0);
        x.beat(0);
        x.spans(20, 50);
        x.deliver(0);
        x.spans(40, 25);
        Hall.deliverLast(x);
        Check.due("the lease by what counts when the yes comes", x.lease(0), 3f);
        Check.due("the promise by what counted when the APPEND came", afterPassing(x, 19), 0);
        Check.due("to its end", afterPassing(x, 1), -1);
    }

    /** Leases: "each counts as it is when it is used." */
    static void theSpanCountsWhenAMachineIsUpAgain() {
        QuorumHall x = Hall.with(3);
        x.spans(30, 0);
        x.toggle(1);
        x.spans(20, 0);
        x.toggle(1);
        Check.due("that of being up", afterPassing(x, 19), 1);
        Check.due("to its end", afterPassing(x, 1), -1);
    }

    // ---- promises

    /** Leases: "A machine that promises does so until its clock shows what it shows then and the span, added," */
    static void aPromiseGoesByTheClockOfTheOneThatPromises() {
        QuorumHall x = Hall.led(3);
        x.rate(1, 500);
        x.rate(2, 1500);
        x.pass(20);
        Hall.beatAll(x, 0);
        x.pass(66);
        Check.due("of 2: 12.9 of 3 and 10", x.of(2, 6), 0);
        x.pass(1);
        Check.due("13.05", x.of(2, 6), -1);
        x.pass(132);
        Check.due("of 1: 10.95 of 1 and 10", x.of(1, 6), 0);
        x.pass(1);
        Check.due("11, or a little more by the sums of floats", x.of(1, 6), -1);
    }

    /** Leases: "A machine that promises does so until its clock shows what it shows then and the span, added," */
    static void aPromiseEndsWhenTheClockShowsIt() {
        QuorumHall x = Hall.led(3);
        x.pass(5);
        x.spans(15, 0);
        yesOf(x, 1);
        x.pass(14);
        Check.due("1.9 of 2", x.clock(1) + " " + x.of(1, 6), "1.9 0");
        Check.badState("no standing", () -> x.stand(1));
        x.pass(1);
        Check.due("2", x.clock(1) + " " + x.of(1, 6), "2.0 -1");
        Check.due("standing", x.stand(1), 2);
    }

    /** Leases: "A machine that promises does so until its clock shows what it shows then and the span, added," */
    static void aPromiseGoesOnWhileTheMachineIsDown() {
        QuorumHall x = Hall.led(3);
        yesOf(x, 1);
        x.toggle(1);
        Check.due("down, at 9.9 of 10", afterPassing(x, 99), 0);
        Check.due("at 10", afterPassing(x, 1), -1);
        x.toggle(1);
        Check.due("up, to nobody", x.of(1, 6), 1);
    }

    /** Leases: "in place of what it promised before:" */
    static void aLaterPromiseTakesThePlaceOfALongerOne() {
        QuorumHall x = Hall.led(3);
        x.spans(1000, 0);
        yesOf(x, 1);
        x.spans(20, 0);
        yesOf(x, 1);
        Check.due("two of a hundred", afterPassing(x, 19), 0);
        Check.due("and no more", afterPassing(x, 1), -1);
    }

    /** Leases: "in place of what it promised before:" */
    static void aPromiseToALeaderTakesThePlaceOfThatToNobody() {
        QuorumHall x = Hall.led(3);
        Hall.crash(x, 1);
        Check.due("to nobody", x.of(1, 6), 1);
        x.spans(5, 0);
        yesOf(x, 1);
        Check.due("to 0", x.of(1, 6), 0);
        Check.due("for its span", afterPassing(x, 4), 0);
        Check.due("and no longer", afterPassing(x, 1), -1);
    }

    /** Leases: "in place of what it promised before:" */
    static void aPromiseToANewLeaderTakesThePlaceOfThatToTheOld() {
        QuorumHall x = Hall.led(5);
        x.beat(0);
        x.deliver(0);
        Check.due("to 0", x.of(1, 6), 0);
        Hall.loseAll(x);
        x.stand(2);
        x.lose(1);
        Hall.deliverAll(x);
        x.beat(2);
        Check.due("2 leads without the vote of 1", x.of(2, 0), QuorumHall.LEADER);
        Hall.deliverTo(x, QuorumHall.APPEND, 1);
        Check.due("to 2", x.of(1, 6), 2);
        Check.due("until the end", afterPassing(x, 99), 2);
        Check.due("and no longer", afterPassing(x, 1), -1);
    }

    /** Leases: "till then it gives no vote to another one than that whose APPEND it was." */
    static void noVoteForAnotherTillThen() {
        QuorumHall x = Hall.led(3);
        yesOf(x, 1);
        x.pass(99);
        x.stand(2);
        x.deliver(1);
        Check.due("9.9 of 10", x.of(1, 1) + " " + x.of(1, 2), "2 -1");
        Hall.deliverLast(x);
        Check.due("its answer was a no", x.of(2, 0), QuorumHall.CANDIDATE);
        x.pass(1);
        Hall.loseAll(x);
        x.stand(2);
        Hall.deliverTo(x, QuorumHall.ASK, 1);
        Check.due("at 10", x.of(1, 1) + " " + x.of(1, 2), "3 2");
    }

    /** Leases: "till then it gives no vote to another one than that whose APPEND it was." */
    static void aVoteForTheOneWhoseAppendItWas() {
        QuorumHall x = Hall.led(3);
        yesOf(x, 1);
        x.spans(1, 0);
        Hall.crash(x, 0);
        x.pass(1);
        x.stand(0);
        x.deliver(0);
        Check.due("the promise to 0 holds, and 0 has the vote", x.of(1, 6) + " " + x.of(1, 2) + " " + x.of(1, 1), "0 0 2");
        Hall.deliverLast(x);
        Check.due("its answer was a yes", x.of(0, 0), QuorumHall.LEADER);
    }

    /** Leases: "A machine that is up again promises for the span to give no vote to anyone, in place of what it promised before." */
    static void oneThatIsUpAgainGivesNoVoteToAnyone() {
        QuorumHall x = Hall.led(5);
        yesOf(x, 1);
        x.pass(20);
        Hall.crash(x, 1);
        Check.due("in place of the promise to 0", x.of(1, 6), 1);
        x.spans(1, 0);
        Hall.crash(x, 0);
        x.pass(1);
        for (int m : new int[] {0, 2, 3, 4}) {
            x.stand(m);
            Hall.deliverTo(x, QuorumHall.ASK, 1);
            Check.due("no vote for " + m, x.of(1, 2), -1);
            Hall.loseAll(x);
        }
        x.pass(98);
        Check.due("11.9 of 12, so longer than the promise of before", x.clock(1) + " " + x.of(1, 6), "11.9 1");
        x.pass(2);
        x.stand(3);
        Hall.deliverTo(x, QuorumHall.ASK, 1);
        Check.due("then it does", x.of(1, 2), 3);
    }

    /** Leases: "A machine that is up again promises for the span to give no vote to anyone, in place of what it promised before." */
    static void theSpanIsFromBeingUpAgain() {
        QuorumHall x = Hall.with(3);
        x.toggle(1);
        x.pass(50);
        x.toggle(1);
        Check.due("up at 5", afterPassing(x, 99), 1);
        Check.due("till 15", afterPassing(x, 1), -1);
    }

    /** Leases: "A machine that is up again promises for the span to give no vote to anyone, in place of what it promised before." */
    static void aShorterPromiseToNobodyTakesThePlaceOfALongerOne() {
        QuorumHall x = Hall.led(3);
        x.spans(1000, 0);
        yesOf(x, 1);
        x.spans(20, 0);
        Hall.crash(x, 1);
        Check.due("to nobody", afterPassing(x, 19), 1);
        Check.due("nor to 0 any more", afterPassing(x, 1), -1);
        Check.due("so it can stand", x.stand(1), 2);
    }

    /** Leases: "A machine that is up again promises for the span to give no vote to anyone, in place of what it promised before." */
    static void atFirstNothingIsPromised() {
        QuorumHall x = Hall.with(5);
        for (int i = 0; i < 5; i++) Check.due("machine " + i, x.of(i, 6), -1);
        x.stand(4);
        Hall.deliverAll(x);
        Check.due("nor by standing or a vote", x.of(4, 6) + " " + x.of(0, 6), "-1 -1");
    }

    /** Leases: "While it has promised otherwise, a machine does not stand either." */
    static void noStandingWhileItHasPromised() {
        QuorumHall x = Hall.led(3);
        yesOf(x, 1);
        Hall.crash(x, 2);
        Check.badState("promised to 0", () -> x.stand(1));
        Check.badState("promised to nobody", () -> x.stand(2));
        x.pass(99);
        Check.badState("a little ahead of the end", () -> x.stand(1));
        Check.badState("a little ahead of the end", () -> x.stand(2));
        x.pass(1);
        Check.due("at the end", x.stand(1) + " " + x.stand(2), "2 2");
    }

    // ---- leases

    /** Leases: "A LEADER can have a lease, until a time of its clock:" */
    static void aLeaseGoesByTheClockOfTheLeader() {
        QuorumHall x = Hall.led(3);
        Check.due("none at first", x.lease(0) + " " + x.leases(), "-1.0 0");
        x.rate(0, 500);
        x.pass(20);
        yesOf(x, 1);
        Check.due("1 and 10", x.lease(0), 11f);
        x.pass(199);
        Check.due("10.95", x.leases(), 1);
        x.pass(1);
        Check.due("11", x.clock(0) + " " + x.leases(), "11.0 0");
        Check.due("others have none", x.lease(1) + " " + x.lease(2), "-1.0 -1.0");
    }

    /** Leases: "of each other machine that answered yes to an APPEND of its term," */
    static void aNoGivesNoLease() {
        QuorumHall x = Hall.led(3);
        x.request(0, 0, 1, 1);
        Hall.crash(x, 0);
        x.pass(100);
        Hall.lead(x, 0, -1);
        x.beat(0);
        Hall.deliver(x, 2);
        Hall.deliver(x, 2);
        Check.due("two answers, both no", x.lease(0), -1f);
        yesOf(x, 1);
        Check.due("a yes", x.lease(0), 20f);
    }

    /** Leases: "of each other machine that answered yes to an APPEND of its term," */
    static void aYesToAnAppendOfAnOlderTermGivesNoLease() {
        QuorumHall x = Hall.led(3);
        x.beat(0);
        Hall.deliver(x, 2);
        Hall.crash(x, 0);
        x.pass(100);
        x.stand(0);
        for (int i = 0; i < 4; i++) x.deliver(2);
        Check.due("a leader of term 2", x.of(0, 0) + " " + x.of(0, 1), "2 2");
        Hall.deliverAll(x);
        Check.due("two yes of term 1", x.lease(0) + " " + x.leases(), "-1.0 0");
    }

    /** Leases: "of each other machine that answered yes to an APPEND of its term," */
    static void aMachineThatAnsweredTwiceIsOne() {
        QuorumHall x = Hall.led(5);
        x.beat(0);
        x.twice(0);
        x.deliver(4);
        x.deliver(0);
        Hall.deliverLast(x);
        Hall.deliverLast(x);
        Check.due("two yes of 1", x.lease(0), -1f);
        yesOf(x, 2);
        Check.due("and one of 2", x.lease(0), 10f);
    }

    /** Leases: "the latest clock in these answers counts." */
    static void aYesWithAnOlderClockDoesNotCount() {
        QuorumHall x = Hall.led(3);
        x.beat(0);
        x.pass(10);
        x.beat(0);
        Hall.loseTo(x, 2);
        x.deliver(1);
        Hall.deliverLast(x);
        Check.due("the second", x.lease(0), 11f);
        x.deliver(0);
        Hall.deliverLast(x);
        Check.due("the first behind it", x.lease(0), 11f);
    }

    /** Leases: "Whenever a yes comes, and most, itself with these, have answered so, the lease is until the span times 1 less the bound, added to the greatest clock such that most, itself with these, have that or a later one," */
    static void mostOfFiveMustHaveAnswered() {
        QuorumHall x = Hall.led(5);
        yesOf(x, 3);
        Check.due("two of five", x.lease(0), -1f);
        yesOf(x, 3);
        Check.due("still two", x.lease(0), -1f);
        yesOf(x, 4);
        Check.due("three of five", x.lease(0), 10f);
    }

    /** Leases: "the lease is until the span times 1 less the bound, added to the greatest clock such that most, itself with these, have that or a later one," */
    static void theGreatestClockThatMostHave() {
        QuorumHall x = Hall.led(5);
        x.pass(10);
        yesOf(x, 1);
        x.pass(10);
        yesOf(x, 2);
        Check.due("1 and 2: most have 1", x.lease(0), 11f);
        x.pass(10);
        yesOf(x, 3);
        Check.due("1, 2 and 3: most have 2", x.lease(0), 12f);
        x.pass(10);
        yesOf(x, 3);
        Check.due("1, 2 and 4: most have 2", x.lease(0), 12f);
        yesOf(x, 4);
        Check.due("1, 2, 4 and 4: most have 4", x.lease(0), 14f);
        x.pass(10);
        yesOf(x, 1);
        Check.due("5, 2, 4 and 4: most have 4", x.lease(0), 14f);
        yesOf(x, 2);
        Check.due("5, 5, 4 and 4: most have 5", x.lease(0), 15f);
    }

    /** Leases: "the lease is until the span times 1 less the bound, added to the greatest clock such that most, itself with these, have that or a later one," */
    static void ofThreeOneOtherIsEnough() {
        QuorumHall x = Hall.led(3);
        x.pass(10);
        yesOf(x, 1);
        Check.due("1", x.lease(0), 11f);
        x.pass(10);
        yesOf(x, 2);
        Check.due("1 and 2: most have 2", x.lease(0), 12f);
    }

    /** Leases: "the lease is until the span times 1 less the bound, added to the greatest clock" */
    static void spanTimesOneLessBound() {
        QuorumHall x = Hall.led(3);
        float[] due = {1.5f + 0.1f * (1f - 0f), 1.5f + 100f * (1f - 0.9f), 1.5f + 7.9f * (1f - 0.85f), 1.5f + 1.5f * (1f - 0.7f)};
        int[][] spans = {{1, 0}, {1000, 90}, {79, 85}, {15, 70}};
        x.pass(15);
        for (int i = 0; i < due.length; i++) {
            x.spans(spans[i][0], spans[i][1]);
            yesOf(x, 1);
            Check.due("span " + spans[i][0] + ", bound " + spans[i][1], x.lease(0), due[i]);
        }
    }

    /** Leases: "in place of what it was." */
    static void aShorterLeaseTakesThePlaceOfALongerOne() {
        QuorumHall x = Hall.led(3);
        x.spans(1000, 0);
        yesOf(x, 1);
        Check.due("a hundred", x.lease(0), 100f);
        x.spans(10, 0);
        x.pass(5);
        yesOf(x, 2);
        Check.due("0.5 and 1", x.lease(0), 1.5f);
    }

    /** Leases: "in place of what it was." */
    static void aYesWithAnOlderClockRenewsBySpanAndBoundOfNow() {
        QuorumHall x = Hall.led(3);
        x.beat(0);
        x.pass(10);
        x.beat(0);
        Hall.loseTo(x, 2);
        x.deliver(1);
        Hall.deliverLast(x);
        Check.due("1 and 10", x.lease(0), 11f);
        x.spans(50, 0);
        x.deliver(0);
        Hall.deliverLast(x);
        Check.due("1 and 5, though that yes tells 0", x.lease(0), 6f);
    }

    /** Leases: "It is gone when the machine is no LEADER," */
    static void aLeaseIsGoneByACrash() {
        QuorumHall x = Hall.led(3);
        yesOf(x, 1);
        x.toggle(0);
        Check.due("down", x.lease(0) + " " + x.leases(), "-1.0 0");
        x.toggle(0);
        Check.due("up again", x.lease(0) + " " + x.leases(), "-1.0 0");
    }

    /** Leases: "It is gone when the machine is no LEADER, and with a new term." */
    static void aLeaseIsGoneByAGreaterTerm() {
        QuorumHall x = Hall.led(5);
        yesOf(x, 1);
        yesOf(x, 2);
        Check.due("a lease", x.lease(0), 10f);
        x.stand(3);
        x.deliver(0);
        Check.due("an ASK of term 2", x.of(0, 0) + " " + x.lease(0) + " " + x.leases(), "0 -1.0 0");
    }

    /** Leases: "It is gone when the machine is no LEADER, and with a new term." */
    static void aLeaderOfANewTermHasNone() {
        QuorumHall x = Hall.led(5);
        for (int m = 1; m < 5; m++) yesOf(x, m);
        Hall.crash(x, 0);
        x.pass(100);
        Hall.lead(x, 0, -1);
        Check.due("a leader", x.of(0, 0) + " " + x.of(0, 1), "2 2");
        Check.due("without a lease", x.lease(0), -1f);
        yesOf(x, 1);
        Check.due("what was answered in term 1 does not count", x.lease(0), -1f);
        yesOf(x, 2);
        Check.due("two of term 2 do", x.lease(0), 20f);
    }

    /** Leases: "A lease is held while the clock of the LEADER shows less than that." */
    static void aLeaseIsHeldWhileTheClockShowsLess() {
        QuorumHall x = Hall.led(3);
        x.request(0, 0, 1, 7);
        Hall.beatAll(x, 0);
        x.pass(99);
        Check.due("9.9 of 10", x.leases() + " " + x.read(0), "1 7");
        x.pass(1);
        Check.due("10", x.leases(), 0);
        Check.badState("no read", () -> x.read(0));
        Check.due("the lease is told though it is over", x.lease(0), 10f);
    }

    /** Leases: "A lease is held while the clock of the LEADER shows less than that." */
    static void aLeaseThatIsOverWhenItComesIsNotHeld() {
        QuorumHall x = Hall.led(3);
        x.spans(10, 0);
        x.beat(0);
        x.deliver(0);
        x.pass(10);
        Hall.deliverLast(x);
        Check.due("till 1, at 1", x.lease(0) + " " + x.leases(), "1.0 0");
        x.beat(0);
        Hall.deliverTo(x, QuorumHall.APPEND, 1);
        x.pass(9);
        Hall.deliverLast(x);
        Check.due("till 2, at 1.9", x.lease(0) + " " + x.leases(), "2.0 1");
    }

    /** Leases: "A lease is held while the clock of the LEADER shows less than that." */
    static void twoCanHoldALeaseIfClocksDrift() {
        QuorumHall x = Hall.led(3);
        x.rate(0, 500);
        x.rate(1, 1500);
        x.rate(2, 1500);
        yesOf(x, 2);
        x.pass(67);
        x.stand(1);
        x.lose(0);
        Hall.deliverAll(x);
        x.beat(1);
        x.lose(0);
        Hall.deliverAll(x);
        Check.due("0 till 10 at 3.35, 1 till 20.05 at 10.05", x.leases(), 2);
        x.pass(66);
        Check.due("0 at 6.65, 1 at 19.95", x.leases(), 2);
        x.pass(1);
        Check.due("0 at 6.7, 1 at 20.1", x.leases(), 1);
        x.pass(66);
        Check.due("0 at 10", x.leases(), 0);
    }
}
