/** What DOC.md says under "Promise 1" to "Promise 15": a test for each sentence, or part of one. */
public final class WordsOfCallsTest {
    private static final int[] FAR = {Integer.MIN_VALUE, Integer.MAX_VALUE};

    public static void main(String[] args) throws IllegalAccessException {
        Check.runAll(WordsOfCallsTest.class);
    }

    // ---- the bench

    /** Promise 1: "Makes a bench with 3 machines." */
    static void aNewObjectHasThreeMachines() {
        QuorumHall x = new QuorumHall();
        for (int i = 0; i < 3; i++) Check.due("machine " + i, Hall.of(x, i), "0 0 -1 0 0 0 -1 1");
        Check.noEntry("machine 3", () -> x.of(3, 0));
        Check.due("it is as one behind begin(3)", Hall.all(x, 3), Hall.all(Hall.with(3), 3));
        Check.due("so many there were", x.begin(3), 3);
    }

    /** Promise 2: "Begins anew, with nothing of what was." */
    static void nothingOfWhatWas() {
        for (int machines = 3; machines <= 5; machines += 2) {
            QuorumHall x = Hall.led(5);
            x.request(0, 0, 1, 7);
            Hall.beatAll(x, 0);
            Hall.beatAll(x, 0);
            x.read(0);
            x.propose(1, 1, 5);
            Hall.deliverAll(x);
            for (int i = 0; i < 5; i++) x.rate(i, 500 + 100 * i);
            x.spans(7, 7);
            x.pass(133);
            for (int i = 1; i < 5; i++) x.cut(0, i);
            x.toggle(2);
            x.propose(3, 3, 5);
            x.stand(4);
            x.begin(machines);
            QuorumHall due = Hall.with(machines);
            Check.due("what is told", Hall.all(x, machines), Hall.all(due, machines));
            for (QuorumHall y : new QuorumHall[] {x, due}) {
                y.pass(10);
                y.stand(0);
                Hall.deliverAll(y);
                y.request(0, 0, 1, 8);
                Hall.beatAll(y, 0);
                y.propose(1, 1, 6);
                Hall.deliverAll(y);
            }
            Check.due("true time", x.pass(1), 1.1f);
            due.pass(1);
            Check.due("rates, spans, cuts, what was promised or known", Hall.all(x, machines), Hall.all(due, machines));
            Check.due("a lease by the span 10", x.lease(0), 11f);
            Check.due("cuts", x.cut(0, 1), true);
        }
    }

    /** Promise 2: "Returns how many machines there were." */
    static void beginTellsHowManyThereWere() {
        QuorumHall x = new QuorumHall();
        Check.due("3 of a new object", x.begin(5), 3);
        Check.due("5", x.begin(5), 5);
        Check.due("5", x.begin(3), 5);
        Check.due("3", x.begin(3), 3);
    }

    /** Promise 2: "`machines`: 3 or 5" */
    static void beginWithThreeOrFive() {
        QuorumHall x = new QuorumHall();
        x.begin(5);
        Check.due("machine 4", x.of(4, 7), 1);
        Check.noEntry("machine 5", () -> x.of(5, 7));
        x.begin(3);
        Check.due("machine 2", x.of(2, 7), 1);
        Check.noEntry("machine 3", () -> x.of(3, 7));
    }

    /** Promise 2: "Throws `IllegalArgumentException` if machines is neither 3 nor 5" */
    static void beginWithNeitherThreeNorFive() {
        QuorumHall x = Hall.led(3);
        x.pass(5);
        String before = Hall.all(x, 3);
        for (int n : new int[] {-5, -3, -1, 0, 1, 2, 4, 6, 7, 8, Integer.MIN_VALUE, Integer.MAX_VALUE}) {
            Check.badArgument("begin(" + n + ")", () -> x.begin(n));
        }
        Check.due("all is as it was", Hall.all(x, 3), before);
        Check.due("three machines", x.begin(5), 3);
    }

    /** Promise 3: "Lets a machine crash, or be up again." */
    static void crashAndUpAgain() {
        QuorumHall x = Hall.led(3);
        x.toggle(0);
        Check.due("down", Hall.of(x, 0), "0 1 0 0 0 0 -1 0");
        x.toggle(0);
        Check.due("up", Hall.of(x, 0), "0 1 0 0 0 0 0 1");
        Check.due("no other one", Hall.of(x, 1) + "," + Hall.of(x, 2), "0 1 0 0 0 0 -1 1,0 1 0 0 0 0 -1 1");
    }

    /** Promise 3: "Returns whether it is up then." */
    static void toggleTellsWhetherItIsUp() {
        QuorumHall x = Hall.with(5);
        for (int i = 0; i < 5; i++) {
            Check.due("down", x.toggle(i), false);
            Check.due("up", x.toggle(i), true);
            Check.due("down", x.toggle(i), false);
        }
    }

    /** Promise 3: "Throws `IndexOutOfBoundsException` if there is no such machine" */
    static void toggleOfNoMachine() {
        QuorumHall x = Hall.with(3);
        Check.noEntry("-1", () -> x.toggle(-1));
        Check.noEntry("3", () -> x.toggle(3));
        for (int n : FAR) Check.noEntry("far", () -> x.toggle(n));
        x.begin(5);
        Check.due("4 of five", x.toggle(4), false);
        Check.noEntry("5 of five", () -> x.toggle(5));
    }

    /** Promise 4: "Cuts two machines from each other, or no more." */
    static void cutAndCutNoMore() {
        QuorumHall x = Hall.with(3);
        x.cut(0, 2);
        x.propose(0, 0, 1);
        x.propose(2, 0, 1);
        Check.badState("0 to 2", () -> x.deliver(1));
        Check.badState("2 to 0", () -> x.deliver(2));
        x.cut(2, 0);
        Check.due("2 to 0", x.deliver(2), 1);
        Check.due("0 to 2", x.deliver(1), 0);
    }

    /** Promise 4: "Returns whether they are cut then." */
    static void cutTellsWhetherTheyAreCut() {
        QuorumHall x = Hall.with(5);
        for (int one = 0; one < 5; one++) {
            for (int other = 0; other < one; other++) {
                Check.due("cut", x.cut(one, other), true);
                Check.due("cut no more, named the other way round", x.cut(other, one), false);
                Check.due("cut", x.cut(other, one), true);
            }
        }
    }

    /** Promise 4: "Throws `IndexOutOfBoundsException` if there is no such machine, of either" */
    static void cutOfNoMachine() {
        QuorumHall x = Hall.with(3);
        for (int n : new int[] {-1, 3, 4, Integer.MIN_VALUE, Integer.MAX_VALUE}) {
            Check.noEntry("one", () -> x.cut(n, 1));
            Check.noEntry("other", () -> x.cut(1, n));
            Check.noEntry("both", () -> x.cut(n, n));
        }
        x.begin(5);
        Check.due("of five", x.cut(4, 3), true);
    }

    /** Promise 4: "Throws `IllegalArgumentException` if both are the same" */
    static void cutFromItself() {
        QuorumHall x = Hall.with(5);
        for (int i = 0; i < 5; i++) {
            int m = i;
            Check.badArgument("machine " + m, () -> x.cut(m, m));
        }
        Check.noEntry("machine 5", () -> x.cut(5, 5));
    }

    /** Promise 5: "Sets the rate of the clock of a machine, from now on." */
    static void rateFromNowOn() {
        QuorumHall x = Hall.with(3);
        x.pass(10);
        x.rate(1, 1500);
        Check.due("what it shows stays", x.clock(1), 1f);
        x.pass(10);
        Check.due("from now on; of that machine alone", x.clock(0) + " " + x.clock(1) + " " + x.clock(2), "2.0 2.5 2.0");
        x.rate(1, 1000);
        x.pass(10);
        Check.due("as at first", x.clock(1), 3.5f);
    }

    /** Promise 5: "`rate`: 500 to 1500; the rate is that divided by 1000, as floats" */
    static void leastAndGreatestRate() {
        QuorumHall x = Hall.with(3);
        x.rate(0, 500);
        x.rate(1, 1500);
        x.rate(2, 1083);
        x.pass(2);
        Check.due("0.5", x.clock(0), 0.1f);
        Check.due("1.5", x.clock(1), 0.2f * 1.5f);
        Check.due("1.083", x.clock(2), 0.2f * (1083f / 1000f));
        for (int rate = 500; rate <= 600; rate++) {
            QuorumHall y = Hall.with(3);
            y.rate(2, rate);
            y.pass(1000);
            Check.due("rate " + rate, y.clock(2), 100f * ((float) rate / 1000f));
        }
        x.rate(0, 501);
        x.rate(1, 1499);
        float was = x.clock(1);
        x.pass(100);
        Check.due("0.501", x.clock(0), 0.1f + 10f * 0.501f);
        Check.due("1.499", x.clock(1), was + 10f * 1.499f);
    }

    /** Promise 5: "Returns the clock now." */
    static void rateTellsTheClock() {
        QuorumHall x = Hall.with(3);
        Check.due("at first", x.rate(1, 500), 0f);
        x.pass(100);
        Check.due("5, whatever the new rate is", x.rate(1, 1500), 5f);
        Check.due("of another", x.rate(0, 1500), 10f);
        x.toggle(1);
        x.pass(10);
        Check.due("while down", x.rate(1, 1000), 6.5f);
    }

    /** Promise 5: "Throws `IndexOutOfBoundsException` if there is no such machine" */
    static void rateOfNoMachine() {
        QuorumHall x = Hall.with(3);
        for (int n : new int[] {-1, 3, Integer.MIN_VALUE, Integer.MAX_VALUE}) {
            Check.noEntry("machine " + n, () -> x.rate(n, 1000));
            Check.noEntry("machine " + n, () -> x.rate(n, 499));
        }
    }

    /** Promise 5: "Throws `IllegalArgumentException` if rate is out of range" */
    static void rateOutOfRange() {
        QuorumHall x = Hall.with(3);
        for (int n : new int[] {499, 1501, 0, -500, -1000, Integer.MIN_VALUE, Integer.MAX_VALUE}) {
            Check.badArgument("rate " + n, () -> x.rate(2, n));
        }
        x.pass(10);
        Check.due("the rate is what it was", x.clock(2), 1f);
    }

    /** Promise 6: "Sets the span and the bound, for what comes from now on." */
    static void spansFromNowOn() {
        QuorumHall x = Hall.led(3);
        Hall.beatAll(x, 0);
        x.spans(50, 20);
        Check.due("a lease that was", x.lease(0), 10f);
        x.pass(60);
        Check.due("a promise that was", x.of(1, 6), 0);
        Hall.beatAll(x, 0);
        Check.due("a new lease", x.lease(0), 6f + 5f * (1f - 0.2f));
        x.pass(50);
        Check.due("a new promise", x.of(1, 6), -1);
    }

    /** Promise 6: "`span`: 1 to 1000; the span is that divided by 10, as floats" */
    static void leastAndGreatestSpan() {
        int[] spans = {1, 2, 7, 999, 1000};
        float[] due = {0.1f, 0.2f, 0.7f, 99.9f, 100f};
        for (int i = 0; i < spans.length; i++) {
            QuorumHall x = Hall.led(3);
            x.spans(spans[i], 0);
            Hall.beatAll(x, 0);
            Check.due("span " + spans[i], x.lease(0), due[i]);
        }
        QuorumHall x = Hall.led(3);
        for (int span = 1; span <= 42; span++) {
            x.spans(span, 0);
            Hall.beatAll(x, 0);
            Check.due("span " + span, x.lease(0), (float) span / 10f);
        }
    }

    /** Promise 6: "`bound`: 0 to 90; the bound is that divided by 100, as floats" */
    static void leastAndGreatestBound() {
        int[] bounds = {0, 1, 33, 89, 90};
        float[] due = {100f, 100f * (1f - 0.01f), 100f * (1f - 0.33f), 100f * (1f - 0.89f), 100f * (1f - 0.9f)};
        for (int i = 0; i < bounds.length; i++) {
            QuorumHall x = Hall.led(3);
            x.spans(1000, bounds[i]);
            Hall.beatAll(x, 0);
            Check.due("bound " + bounds[i], x.lease(0), due[i]);
        }
    }

    /** Promise 6: "Throws `IllegalArgumentException` if span or bound is out of range" */
    static void spanOrBoundOutOfRange() {
        QuorumHall x = Hall.led(3);
        for (int n : new int[] {0, -1, 1001, -1000, Integer.MIN_VALUE, Integer.MAX_VALUE}) {
            Check.badArgument("span " + n, () -> x.spans(n, 50));
        }
        for (int n : new int[] {-1, 91, 100, Integer.MIN_VALUE, Integer.MAX_VALUE}) {
            Check.badArgument("bound " + n, () -> x.spans(50, n));
        }
        Check.badArgument("both", () -> x.spans(0, 91));
        Hall.beatAll(x, 0);
        Check.due("neither is set", x.lease(0), 10f);
        x.pass(99);
        Check.due("neither is set", x.of(1, 6), 0);
    }

    /** Promise 7: "Lets true time go on." */
    static void trueTimeGoesOn() {
        QuorumHall x = Hall.with(5);
        x.pass(10);
        for (int i = 0; i < 5; i++) Check.due("clock " + i, x.clock(i), 1f);
        Check.due("and on", x.pass(20), 3f);
    }

    /** Promise 7: "`time`: 1 to 1000; it goes on by that divided by 10, as floats" */
    static void leastAndGreatestTime() {
        QuorumHall x = Hall.with(3);
        Check.due("1", x.pass(1), 0.1f);
        Check.due("1000", x.pass(1000), 0.1f + 100f);
        Check.due("3", x.pass(3), 0.1f + 100f + 0.3f);
        Check.due("a clock", x.clock(2), 0.1f + 100f + 0.3f);
        for (int time = 1; time <= 1000; time++) {
            x = new QuorumHall();
            Check.due("time " + time, x.pass(time), (float) time / 10f);
        }
    }

    /** Promise 7: "Returns true time then." */
    static void passTellsTrueTime() {
        QuorumHall x = Hall.with(3);
        for (int i = 0; i < 3; i++) x.rate(i, 500);
        Check.due("not a clock", x.pass(10), 1f);
        Check.due("the sum", x.pass(15), 2.5f);
    }

    /** Promise 7: "Throws `IllegalArgumentException` if time is out of range" */
    static void timeOutOfRange() {
        QuorumHall x = Hall.with(3);
        for (int n : new int[] {0, -1, -1000, 1001, Integer.MIN_VALUE, Integer.MAX_VALUE}) {
            Check.badArgument("time " + n, () -> x.pass(n));
        }
        Check.due("none has passed", x.clock(0) + " " + x.pass(1), "0.0 0.1");
    }

    // ---- the net

    /** Promise 8: "`message`: 0 for the first one in the row" */
    static void deliverTheFirstOrTheLast() {
        QuorumHall x = Hall.with(5);
        x.stand(0);
        x.deliver(0);
        Check.due("the first went to 1", x.of(1, 1) + " " + x.of(2, 1) + " " + x.of(4, 1), "1 0 0");
        x.deliver(2);
        Check.due("the last ASK went to 4", x.of(1, 1) + " " + x.of(2, 1) + " " + x.of(4, 1), "1 0 1");
    }

    /** Promise 8: "Returns how many messages are sent by that," */
    static void deliverTellsHowManyAreSent() {
        QuorumHall x = Hall.with(5);
        x.stand(0);
        Check.due("an ASK", x.deliver(0), 1);
        Check.due("a VOTE", Hall.deliverLast(x), 0);
        Hall.deliverAll(x);
        x.beat(0);
        Check.due("an APPEND", x.deliver(0), 1);
        Check.due("an ACK", Hall.deliverLast(x), 0);
        Hall.loseAll(x);
        x.propose(1, 0, 5);
        x.twice(0);
        Check.due("a PREPARE", x.deliver(0), 1);
        Check.due("one that is not answered", x.deliver(3), 0);
        Check.due("a PROMISED that is not most", Hall.deliverLast(x), 0);
        x.deliver(0);
        Check.due("a PROMISED with which it goes on", Hall.deliverLast(x), 4);
        Check.due("an ACCEPT", Hall.deliverLast(x), 1);
        Check.due("an ACCEPTED", Hall.deliverLast(x), 0);
        QuorumHall y = Hall.with(3);
        y.propose(1, 0, 5);
        y.deliver(0);
        Check.due("two of three", Hall.deliverLast(y), 2);
    }

    /** Promise 8: "those that are lost at 60 with them." */
    static void deliverTellsOfThoseThatAreLost() {
        for (int messages = 56; messages <= 60; messages++) {
            QuorumHall x = Hall.with(5);
            x.propose(0, 0, 5);
            x.deliver(0);
            x.deliver(0);
            Hall.deliverLast(x);
            Hall.fill(x, messages);
            Check.due("four are sent", Hall.deliverLast(x), 4);
            Check.due("of which so many came", x.messages(), Math.min(60, messages - 1 + 4));
        }
        QuorumHall y = Hall.with(3);
        y.stand(0);
        Hall.fill(y, 60);
        Check.due("an answer finds the place of its message", y.deliver(0), 1);
        Check.due("sixty", y.messages(), 60);
    }

    /** Promise 8: "Throws `IndexOutOfBoundsException` if there is no such message" */
    static void deliverNoMessage() {
        QuorumHall x = Hall.with(3);
        Check.noEntry("none", () -> x.deliver(0));
        x.stand(0);
        Check.noEntry("-1", () -> x.deliver(-1));
        Check.noEntry("2 of 2", () -> x.deliver(2));
        for (int n : FAR) Check.noEntry("far", () -> x.deliver(n));
        Hall.fill(x, 60);
        Check.noEntry("60 of 60", () -> x.deliver(60));
        Check.due("59 of 60", x.deliver(59), 1);
    }

    /** Promise 8: "Throws `IllegalStateException` if its machine is not up, or both are cut" */
    static void deliverToOneThatIsDownOrCut() {
        QuorumHall x = Hall.with(3);
        x.stand(0);
        x.toggle(1);
        x.cut(2, 0);
        String before = Hall.all(x, 3);
        Check.badState("down", () -> x.deliver(0));
        Check.badState("cut", () -> x.deliver(1));
        Check.due("both stay", Hall.all(x, 3), before);
        x.cut(1, 0);
        Check.badState("down and cut", () -> x.deliver(0));
        x.toggle(1);
        Check.badState("still cut", () -> x.deliver(0));
        x.cut(1, 0);
        Check.due("neither", x.deliver(0), 1);
    }

    /** Promise 9: "Loses a message." */
    static void loseOne() {
        QuorumHall x = Hall.with(5);
        x.stand(0);
        x.lose(1);
        Check.due("the others", Hall.message(x, 0) + "," + Hall.message(x, 1) + "," + Hall.message(x, 2),
            "0 0 1 1 0,0 0 3 1 0,0 0 4 1 0");
        Check.due("it is not dealt with", x.of(2, 1), 0);
    }

    /** Promise 9: "`message`: 0 for the first one in the row" */
    static void loseTheFirstOrTheLast() {
        QuorumHall x = Hall.with(5);
        x.stand(0);
        x.lose(0);
        x.lose(2);
        Check.due("those between", Hall.message(x, 0) + "," + Hall.message(x, 1), "0 0 2 1 0,0 0 3 1 0");
        x.toggle(2);
        x.cut(0, 3);
        x.lose(0);
        x.lose(0);
        Check.due("one to a machine that is down, one that is cut", x.messages(), 0);
    }

    /** Promise 9: "Returns how many are left." */
    static void loseTellsHowManyAreLeft() {
        QuorumHall x = Hall.with(3);
        x.stand(0);
        Hall.fill(x, 60);
        for (int left = 59; left >= 0; left--) Check.due("left", x.lose(left / 2), left);
    }

    /** Promise 9: "Throws `IndexOutOfBoundsException` if there is no such message" */
    static void loseNoMessage() {
        QuorumHall x = Hall.with(3);
        Check.noEntry("none", () -> x.lose(0));
        x.stand(0);
        Check.noEntry("-1", () -> x.lose(-1));
        Check.noEntry("2 of 2", () -> x.lose(2));
        for (int n : FAR) Check.noEntry("far", () -> x.lose(n));
        Check.due("both are there", x.messages(), 2);
    }

    /** Promise 10: "Doubles a message." */
    static void doubleOneOfEachKind() {
        QuorumHall x = Hall.led(5);
        for (int i = 1; i <= 4; i++) x.request(0, 0, i, i);
        x.beat(0);
        x.deliver(0);
        x.stand(3);
        Hall.deliverTo(x, QuorumHall.ASK, 4);
        x.propose(2, 0, 5);
        Hall.deliverTo(x, QuorumHall.PREPARE, 1);
        Hall.deliverTo(x, QuorumHall.PREPARE, 3);
        Hall.deliverTo(x, QuorumHall.PROMISED, 2);
        Hall.deliverTo(x, QuorumHall.PROMISED, 2);
        Hall.deliverTo(x, QuorumHall.PREPARE, 0);
        Hall.deliverTo(x, QuorumHall.ACCEPT, 4);
        boolean[] kinds = new boolean[8];
        int messages = x.messages();
        for (int i = 0; i < messages; i++) {
            x.twice(i);
            kinds[x.message(i, 0)] = true;
            Check.due("a like one at the end", Hall.message(x, messages + i), Hall.message(x, i));
        }
        for (int kind = 0; kind < 8; kind++) Check.due("kind " + kind, kinds[kind], true);
    }

    /** Promise 10: "Doubles a message." */
    static void aDoubleOfAnAppendHasItsEntriesCommitAndClock() {
        QuorumHall x = Hall.led(3);
        x.request(0, 0, 1, 1);
        Hall.beatAll(x, 0);
        x.request(0, 0, 2, 2);
        x.pass(20);
        x.beat(0);
        x.twice(0);
        x.lose(0);
        x.deliver(1);
        Check.due("entries and commit", Hall.of(x, 1), "0 1 0 2 1 1 0 1");
        x.twice(1);
        x.lose(1);
        Hall.deliverLast(x);
        Check.due("a like ACK has its number and clock", x.of(0, 4) + " " + x.lease(0), "2 12.0");
    }

    /** Promise 10: "Doubles a message." */
    static void doublesOfAnElectionAreLikeTheFirst() {
        QuorumHall x = Hall.led(3);
        x.request(0, 0, 1, 1);
        Hall.beatAll(x, 0);
        x.pass(100);
        x.stand(1);
        x.lose(0);
        deliverDouble(x);
        deliverDouble(x);
        Check.due("an ASK with its last entry, a VOTE with its yes", x.of(1, 0), QuorumHall.LEADER);
        Hall.crash(x, 0);
        x.pass(100);
        Hall.crash(x, 2);
        x.stand(0);
        x.lose(0);
        deliverDouble(x);
        deliverDouble(x);
        Check.due("a VOTE with its no", x.of(0, 0), QuorumHall.CANDIDATE);
    }

    /** Promise 10: "Doubles a message." */
    static void doublesOfADecisionAreLikeTheFirst() {
        QuorumHall x = Hall.with(3);
        x.propose(1, 3, 8);
        x.lose(0);
        deliverDouble(x);
        Check.due("a PREPARE of its decision", x.decision(2, 0, 0) + " " + x.decision(2, 3, 0), "-1 1");
        deliverDouble(x);
        Check.due("a PROMISED of its decision", Hall.decision(x, 1, 3), "1 1 8 -1");
        x.lose(0);
        deliverDouble(x);
        Check.due("an ACCEPT of its decision with its value", Hall.decision(x, 2, 3), "1 1 8 -1");
        deliverDouble(x);
        Check.due("an ACCEPTED of its decision", Hall.decision(x, 1, 3), "1 1 8 8");
        x.propose(0, 3, 7);
        x.propose(0, 3, 9);
        Hall.loseTo(x, 1);
        x.lose(0);
        deliverDouble(x);
        deliverDouble(x);
        Check.due("a PROMISED with what was accepted", Hall.decision(x, 0, 3), "8 8 8 -1");
    }

    /** Doubles the first message, loses it, and delivers the like one. */
    private static void deliverDouble(QuorumHall x) {
        x.twice(0);
        x.lose(0);
        Hall.deliverLast(x);
    }

    /** Promise 10: "`message`: 0 for the first one in the row" */
    static void doubleTheFirstOrTheLast() {
        QuorumHall x = Hall.with(5);
        x.stand(0);
        x.twice(0);
        x.twice(3);
        Check.due("to 1, and to 4", Hall.message(x, 4) + "," + Hall.message(x, 5), "0 0 1 1 0,0 0 4 1 0");
        x.twice(4);
        Check.due("a double can be doubled", Hall.message(x, 6), "0 0 1 1 0");
        x.toggle(1);
        x.cut(0, 1);
        x.twice(0);
        Check.due("down or cut does not matter", x.messages(), 8);
    }

    /** Promise 10: "Returns how many there are then." */
    static void twiceTellsHowManyThereAre() {
        QuorumHall x = Hall.with(3);
        x.stand(0);
        for (int n = 3; n <= 60; n++) Check.due("then", x.twice(n / 2 - 1), n);
        Check.due("at 60 the like one is lost", x.twice(0), 60);
        Check.due("sixty", x.messages(), 60);
    }

    /** Promise 10: "Throws `IndexOutOfBoundsException` if there is no such message" */
    static void doubleNoMessage() {
        QuorumHall x = Hall.with(3);
        Check.noEntry("none", () -> x.twice(0));
        x.stand(0);
        Check.noEntry("-1", () -> x.twice(-1));
        Check.noEntry("2 of 2", () -> x.twice(2));
        for (int n : FAR) Check.noEntry("far", () -> x.twice(n));
        Check.due("both are there", x.messages(), 2);
        Hall.fill(x, 60);
        Check.noEntry("60 of 60", () -> x.twice(60));
    }

    // ---- leaders and requests

    /** Promise 11: "Lets a machine stand." */
    static void letAFollowerOrACandidateStand() {
        QuorumHall x = Hall.with(5);
        x.stand(4);
        Check.due("a candidate", x.of(4, 0), QuorumHall.CANDIDATE);
        x.stand(4);
        Check.due("again", x.of(4, 0) + " " + x.messages(), "1 8");
    }

    /** Promise 11: "Returns its term then." */
    static void standTellsItsTerm() {
        QuorumHall x = Hall.with(3);
        for (int term = 1; term <= 4; term++) Check.due("term", x.stand(0), term);
        Hall.deliverTo(x, QuorumHall.ASK, 1);
        Check.due("1 more than its own, not than that of others", x.stand(1) + " " + x.stand(2), "2 1");
    }

    /** Promise 11: "Throws `IndexOutOfBoundsException` if there is no such machine" */
    static void standOfNoMachine() {
        QuorumHall x = Hall.with(3);
        Check.noEntry("-1", () -> x.stand(-1));
        Check.noEntry("3", () -> x.stand(3));
        for (int n : FAR) Check.noEntry("far", () -> x.stand(n));
    }

    /** Promise 11: "Throws `IllegalStateException` if it is not up, is a LEADER, or has promised otherwise" */
    static void standRefused() {
        QuorumHall x = Hall.led(5);
        Check.badState("a LEADER", () -> x.stand(0));
        x.toggle(1);
        Check.badState("not up", () -> x.stand(1));
        x.beat(0);
        Hall.deliverTo(x, QuorumHall.APPEND, 2);
        Hall.loseAll(x);
        Check.badState("promised to the LEADER", () -> x.stand(2));
        Hall.crash(x, 3);
        Check.badState("promised to nobody", () -> x.stand(3));
        Check.due("none of these did anything", x.of(0, 1) + x.of(1, 1) + x.of(2, 1) + x.of(3, 1) + " " + x.messages(), "4 0");
        Check.due("one that did not promise", x.stand(4), 2);
        x.pass(100);
        Check.badState("a LEADER", () -> x.stand(0));
        Check.badState("not up", () -> x.stand(1));
        Check.due("promises that are over", x.stand(2) + " " + x.stand(3), "2 2");
    }

    /** Promise 12: "Returns how many entries are in what it sends." */
    static void beatTellsHowManyEntries() {
        QuorumHall x = Hall.led(5);
        Check.due("none", x.beat(0), 0);
        Hall.deliverAll(x);
        x.request(0, 0, 1, 1);
        Check.due("one for each of four", x.beat(0), 4);
        x.deliver(0);
        Hall.deliverLast(x);
        Check.due("of which one has it", x.beat(0), 3);
        for (int i = 2; i <= 5; i++) x.request(0, 0, i, i);
        Hall.loseAll(x);
        Check.due("three for each", x.beat(0), 12);
        Hall.fill(x, 58);
        Check.due("those that are lost with them", x.beat(0), 12);
        Check.due("sixty", x.messages(), 60);
        Check.due("all lost", x.beat(0), 12);
    }

    /** Promise 12: "Lets a LEADER beat." */
    static void letALeaderBeat() {
        QuorumHall x = Hall.led(3);
        x.beat(0);
        x.beat(0);
        Check.due("two for each, answered or not", x.messages(), 4);
        Check.due("APPEND", Hall.message(x, 0) + "," + Hall.message(x, 3), "2 0 1 1 0,2 0 2 1 0");
    }

    /** Promise 12: "Throws `IndexOutOfBoundsException` if there is no such machine" */
    static void beatOfNoMachine() {
        QuorumHall x = Hall.led(3);
        Check.noEntry("-1", () -> x.beat(-1));
        Check.noEntry("3", () -> x.beat(3));
        for (int n : FAR) Check.noEntry("far", () -> x.beat(n));
    }

    /** Promise 12: "Throws `IllegalStateException` if it is not up, or no LEADER" */
    static void beatRefused() {
        QuorumHall x = Hall.led(3);
        Check.badState("a FOLLOWER", () -> x.beat(1));
        x.stand(2);
        Check.badState("a CANDIDATE", () -> x.beat(2));
        x.toggle(0);
        Check.badState("not up", () -> x.beat(0));
        x.toggle(0);
        Check.badState("up again", () -> x.beat(0));
        Check.due("nothing is sent", x.messages(), 2);
    }

    /** Promise 13: "Requests that a value is written." */
    static void requestAValue() {
        QuorumHall x = Hall.led(3);
        x.request(0, 1, 2, 345);
        Check.due("an act and an entry", Hall.act(x, 0) + " " + Hall.log(x, 0), "1 345 6 -1 1:345");
        Check.due("no message", x.messages(), 0);
    }

    /** Promise 13: "`client`: 0 to 3" */
    static void leastAndGreatestClient() {
        QuorumHall x = Hall.led(3);
        Check.due("0", x.request(0, 0, 1, 1), 1);
        Check.due("3", x.request(0, 3, 1, 1), 2);
        Check.due("told", x.entry(0, 1, 1) + " " + x.entry(0, 2, 1), "0 3");
        for (int n : new int[] {-1, 4, Integer.MIN_VALUE, Integer.MAX_VALUE}) {
            Check.noEntry("client " + n, () -> x.request(0, n, 1, 1));
        }
    }

    /** Promise 13: "`serial`: 1 to 99" */
    static void leastAndGreatestSerial() {
        QuorumHall x = Hall.led(3);
        Check.due("1", x.request(0, 0, 1, 1), 1);
        Check.due("99", x.request(0, 0, 99, 1), 2);
        Check.due("told", x.entry(0, 1, 2) + " " + x.entry(0, 2, 2), "1 99");
        for (int n : new int[] {0, -1, 100, Integer.MIN_VALUE, Integer.MAX_VALUE}) {
            Check.badArgument("serial " + n, () -> x.request(0, 0, n, 1));
        }
    }

    /** Promise 13: "`value`: 0 to 999" */
    static void leastAndGreatestValue() {
        QuorumHall x = Hall.led(3);
        Check.due("0", x.request(0, 0, 1, 0), 1);
        Check.due("999", x.request(0, 0, 2, 999), 2);
        Check.due("told", x.entry(0, 1, 3) + " " + x.entry(0, 2, 3), "0 999");
        for (int n : new int[] {-1, 1000, Integer.MIN_VALUE, Integer.MAX_VALUE}) {
            Check.badArgument("value " + n, () -> x.request(0, 0, 3, n));
        }
    }

    /** Promise 13: "Returns the number of the entry of that client with that serial in its log; 0 if there is none." */
    static void requestTellsTheNumberOfTheEntry() {
        QuorumHall x = Hall.led(3);
        Check.due("1", x.request(0, 2, 50, 1), 1);
        Check.due("2", x.request(0, 3, 50, 2), 2);
        Check.due("3", x.request(0, 2, 60, 3), 3);
        Check.due("1 again", x.request(0, 2, 50, 1), 1);
        Check.due("3 again", x.request(0, 2, 60, 3), 3);
        Check.due("a serial between two that are there", x.request(0, 2, 55, 4), 0);
        Check.due("one below all", x.request(0, 2, 49, 5), 0);
        Check.due("0 again", x.request(0, 2, 55, 4), 0);
        Check.due("4", x.request(0, 2, 61, 6), 4);
    }

    /** Promise 13: "Throws `IndexOutOfBoundsException` if there is no such machine or client" */
    static void requestOfNoMachineOrClient() {
        QuorumHall x = Hall.led(3);
        for (int n : new int[] {-1, 5, Integer.MIN_VALUE, Integer.MAX_VALUE}) {
            Check.noEntry("machine " + n, () -> x.request(n, 0, 1, 1));
            Check.noEntry("client " + n, () -> x.request(0, n, 1, 1));
            Check.noEntry("both", () -> x.request(n, n, 0, 1000));
        }
        Check.noEntry("machine 3", () -> x.request(3, 0, 1, 1));
        Check.noEntry("client 4", () -> x.request(0, 4, 1, 1));
    }

    /** Promise 13: "Throws `IllegalArgumentException` if serial or value is out of range, or the act has another value" */
    static void requestWithAnotherValue() {
        QuorumHall x = Hall.led(3);
        x.request(0, 0, 5, 50);
        x.request(0, 0, 4, 40);
        String before = Hall.all(x, 3);
        Check.badArgument("lower by one", () -> x.request(0, 0, 5, 49));
        Check.badArgument("greater by one", () -> x.request(0, 0, 5, 51));
        Check.badArgument("of an act that has no entry", () -> x.request(0, 0, 4, 50));
        Check.badArgument("at another machine", () -> x.request(1, 0, 5, 49));
        Check.badArgument("serial out of range", () -> x.request(0, 0, 100, 50));
        Check.badArgument("value out of range", () -> x.request(0, 0, 5, 1000));
        Check.due("nothing is changed", Hall.all(x, 3), before);
        Check.due("another client has its own", x.request(0, 1, 5, 49), 2);
        x.begin(3);
        x.stand(0);
        Hall.deliverAll(x);
        Check.due("no act is left behind begin", x.request(0, 0, 5, 49), 1);
    }

    /** Promise 13: "Throws `IllegalStateException` if the machine is not up, or no LEADER, its log has 30 entries, or there are 14 other acts" */
    static void requestRefused() {
        QuorumHall x = Hall.led(3);
        Check.badState("a FOLLOWER", () -> x.request(1, 0, 1, 1));
        x.stand(2);
        Check.badState("a CANDIDATE", () -> x.request(2, 0, 1, 1));
        x.toggle(0);
        Check.badState("not up", () -> x.request(0, 0, 1, 1));
        x.toggle(0);
        Check.badState("up again", () -> x.request(0, 0, 1, 1));
        Check.due("no act", x.acts(), 0);
    }

    /** Promise 13: "or there are 14 other acts" */
    static void requestWithFourteenActs() {
        QuorumHall x = Hall.led(3);
        for (int i = 1; i <= 13; i++) x.request(0, 0, i, i);
        Check.due("the fourteenth", x.request(0, 0, 14, 14), 14);
        for (int i = 1; i <= 14; i++) Check.due("one of them, 13 others", x.request(0, 0, i, i), i);
        Check.badState("14 others", () -> x.request(0, 0, 15, 15));
        Check.badState("14 others", () -> x.request(0, 1, 14, 14));
        Check.due("no entry, no act", x.of(0, 3) + " " + x.acts(), "14 14");
    }

    /** Promise 14: "Reads the value of a machine, which is an act." */
    static void aReadIsAnAct() {
        QuorumHall x = Hall.led(3);
        x.request(0, 0, 1, 70);
        Hall.beatAll(x, 0);
        x.read(0);
        x.read(0);
        Check.due("each is one", x.acts() + ": " + x.act(1, 0) + " " + x.act(2, 0), "3: 0 0");
    }

    /** Promise 14: "Returns the value." */
    static void readTellsTheValue() {
        QuorumHall x = Hall.led(3);
        x.request(0, 0, 1, 70);
        Hall.beatAll(x, 0);
        x.request(0, 0, 2, 80);
        Check.due("of the last agreed entry", x.read(0), 70);
        Hall.beatAll(x, 0);
        Check.due("then", x.read(0) + " " + x.act(3, 1), "80 80");
        x.request(0, 0, 3, 0);
        Hall.beatAll(x, 0);
        Check.due("a value of 0", x.read(0), 0);
    }

    /** Promise 14: "Throws `IndexOutOfBoundsException` if there is no such machine" */
    static void readOfNoMachine() {
        QuorumHall x = Hall.led(3);
        Check.noEntry("-1", () -> x.read(-1));
        Check.noEntry("3", () -> x.read(3));
        for (int n : FAR) Check.noEntry("far", () -> x.read(n));
    }

    /** Promise 14: "Throws `IllegalStateException` if it is not up, holds no lease, its commit is not that of an entry of its own term, or there are 14 acts" */
    static void readRefused() {
        QuorumHall x = Hall.led(3);
        Check.badState("no lease", () -> x.read(0));
        Hall.beatAll(x, 0);
        Check.badState("a lease, the commit 0", () -> x.read(0));
        x.request(0, 0, 1, 7);
        Hall.beatAll(x, 0);
        Check.badState("a FOLLOWER", () -> x.read(1));
        x.pass(100);
        Check.badState("a lease that is over", () -> x.read(0));
        Check.due("no act by these", x.acts(), 1);
        Hall.beatAll(x, 0);
        for (int i = 2; i <= 14; i++) x.read(0);
        Check.badState("14 acts", () -> x.read(0));
        x.toggle(0);
        Check.badState("not up", () -> x.read(0));
    }

    // ---- decisions

    /** Promise 15: "Proposes a value." */
    static void proposeAValue() {
        QuorumHall x = Hall.with(3);
        x.propose(1, 2, 345);
        Hall.deliverAll(x);
        Check.due("decided", Hall.decision(x, 1, 2), "1 1 345 345");
    }

    /** Promise 15: "`decision`: 0 to 3" */
    static void leastAndGreatestDecision() {
        QuorumHall x = Hall.with(3);
        Check.due("0 and 3", x.propose(1, 0, 1) + " " + x.propose(1, 3, 1), "1 1");
        for (int n : new int[] {-1, 4, Integer.MIN_VALUE, Integer.MAX_VALUE}) {
            Check.noEntry("decision " + n, () -> x.propose(0, n, 1));
        }
    }

    /** Promise 15: "`value`: 0 to 999" */
    static void leastAndGreatestProposedValue() {
        QuorumHall x = Hall.with(3);
        x.propose(0, 0, 0);
        x.propose(0, 1, 999);
        Hall.deliverAll(x);
        Check.due("0 and 999", x.decision(0, 0, 3) + " " + x.decision(0, 1, 3), "0 999");
    }

    /** Promise 15: "Returns the ballot." */
    static void proposeTellsTheBallot() {
        QuorumHall x = Hall.with(5);
        Check.due("of 4", x.propose(4, 0, 9), 4);
        Check.due("of 4", x.propose(4, 0, 9), 12);
        Check.due("of 0", x.propose(0, 0, 9), 0);
        Check.due("is what it promised", x.decision(4, 0, 0) + " " + x.decision(0, 0, 0), "12 0");
    }

    /** Promise 15: "Throws `IndexOutOfBoundsException` if there is no such machine or decision" */
    static void proposeOfNoMachineOrDecision() {
        QuorumHall x = Hall.with(3);
        for (int n : new int[] {-1, 4, Integer.MIN_VALUE, Integer.MAX_VALUE}) {
            Check.noEntry("machine " + n, () -> x.propose(n, 0, 1));
            Check.noEntry("decision " + n, () -> x.propose(0, n, 1));
            Check.noEntry("both, and the value", () -> x.propose(n, n, 1000));
        }
        Check.noEntry("machine 3", () -> x.propose(3, 0, 1));
        Check.due("nothing is sent", x.messages(), 0);
    }

    /** Promise 15: "Throws `IllegalArgumentException` if value is out of range" */
    static void proposeValueOutOfRange() {
        QuorumHall x = Hall.with(3);
        for (int n : new int[] {-1, 1000, Integer.MIN_VALUE, Integer.MAX_VALUE}) {
            Check.badArgument("value " + n, () -> x.propose(0, 0, n));
        }
        Check.due("nothing is promised or sent", x.decision(0, 0, 0) + " " + x.messages(), "-1 0");
    }

    /** Promise 15: "Throws `IllegalStateException` if it is not up" */
    static void proposeRefused() {
        QuorumHall x = Hall.with(3);
        x.toggle(1);
        Check.badState("not up", () -> x.propose(1, 0, 1));
        Check.due("nothing is promised or sent", x.decision(1, 0, 0) + " " + x.messages(), "-1 0");
        x.toggle(1);
        Check.due("up again", x.propose(1, 0, 1), 1);
    }
}
