/** What DOC.md says under "Machines, the net", and ahead of it: a test for each sentence, or part of one. */
public final class WordsOfNetTest {
    public static void main(String[] args) throws IllegalAccessException {
        Check.runAll(WordsOfNetTest.class);
    }

    /** What it is: "An object is used for at most 512 calls after it has been made; what later calls answer is free." */
    static void the512thCallIsAsGoodAsTheFirst() {
        QuorumHall x = new QuorumHall();
        float time = 0f;
        for (int i = 1; i <= 510; i++) {
            time = time + 100f;
            Check.due("pass " + i, x.pass(1000), time);
        }
        Check.due("call 511", x.clock(2), time);
        Check.due("call 512", x.steps(), 510);

        QuorumHall y = new QuorumHall();
        for (int i = 1; i <= 511; i++) y.stand(0);
        Check.due("the term by call 512", y.of(0, 1), 511);

        QuorumHall z = new QuorumHall();
        for (int i = 1; i <= 511; i++) z.propose(2, 3, 1);
        Check.due("the ballot of call 512", z.propose(2, 3, 1), 8 * 511 + 2);
    }

    /** Terms: "Questions change nothing." */
    static void questionsChangeNothing() {
        QuorumHall asked = busy();
        QuorumHall left = busy();
        for (int round = 0; round < 2; round++) {
            askEverything(asked);
            Check.due("what is told", Hall.all(asked, 5), Hall.all(left, 5));
            Hall.deliverAll(asked);
            Hall.deliverAll(left);
            askEverything(asked);
            Check.due("what became of it", Hall.all(asked, 5), Hall.all(left, 5));
            asked.pass(95);
            left.pass(95);
            Check.due("beat", asked.beat(0), left.beat(0));
            Check.due("stand", Check.thrownBy(() -> asked.stand(1)), Check.thrownBy(() -> left.stand(1)));
        }
    }

    /** A leader with a lease and acts, one that is down, proposals under way, and messages of many kinds. */
    private static QuorumHall busy() {
        QuorumHall x = Hall.led(5);
        x.request(0, 1, 1, 10);
        Hall.beatAll(x, 0);
        x.read(0);
        x.toggle(4);
        x.toggle(4);
        x.request(0, 2, 1, 20);
        x.beat(0);
        x.deliver(2);
        x.propose(3, 1, 30);
        x.deliver(x.messages() - 4);
        x.twice(0);
        return x;
    }

    private static void askEverything(QuorumHall x) {
        for (int i = -1; i <= 61; i++) {
            int n = i;
            for (int k = -1; k <= 8; k++) {
                int what = k;
                Check.thrownBy(() -> x.message(n, what));
                Check.thrownBy(() -> x.act(n, what));
                if (n > 5) continue;
                Check.thrownBy(() -> x.of(n, what));
                for (int e = -1; e < 4; e++) {
                    int entry = e;
                    Check.thrownBy(() -> x.entry(n, entry, what));
                    Check.thrownBy(() -> x.decision(n, entry, what));
                }
            }
            if (n <= 5) Check.thrownBy(() -> x.clock(n) + x.lease(n));
        }
        x.steps();
        x.messages();
        x.leases();
        x.acts();
        x.isInOrder();
        x.isAgreed();
    }

    /** Machines, the net: "There are 3 machines, or 5, numbered from 0;" */
    static void threeMachinesFromZero() {
        QuorumHall x = Hall.with(3);
        for (int i = 0; i < 3; i++) Check.due("machine " + i + " is there", x.of(i, 7), 1);
        Check.noEntry("machine -1", () -> x.of(-1, 7));
        Check.noEntry("machine 3", () -> x.of(3, 7));
    }

    /** Machines, the net: "There are 3 machines, or 5, numbered from 0;" */
    static void fiveMachinesFromZero() {
        QuorumHall x = Hall.with(5);
        for (int i = 0; i < 5; i++) Check.due("machine " + i + " is there", x.of(i, 7), 1);
        Check.noEntry("machine -1", () -> x.of(-1, 7));
        Check.noEntry("machine 5", () -> x.of(5, 7));
    }

    /** Machines, the net: "most of them are 2, or 3." */
    static void mostOfThreeAreTwo() {
        QuorumHall x = Hall.with(3);
        x.stand(1);
        Check.due("one of three", x.of(1, 0), QuorumHall.CANDIDATE);
        x.deliver(0);
        Hall.deliverLast(x);
        Check.due("two of three votes", x.of(1, 0), QuorumHall.LEADER);
        Hall.loseAll(x);
        x.request(1, 0, 1, 7);
        x.beat(1);
        Check.due("one of three knows it", x.of(1, 4), 0);
        x.deliver(0);
        Hall.deliverLast(x);
        Check.due("two of three know it", x.of(1, 4), 1);
        Check.due("two of three answered", x.leases(), 1);
        Hall.loseAll(x);
        x.propose(1, 0, 7);
        x.deliver(0);
        Check.due("two of three promised", Hall.deliverLast(x), 2);
        Hall.deliverLast(x);
        Check.due("one of three accepted", x.decision(1, 0, 3), -1);
        Hall.deliverLast(x);
        Check.due("two of three accepted", x.decision(1, 0, 3), 7);
    }

    /** Machines, the net: "most of them are 2, or 3." */
    static void mostOfFiveAreThree() {
        QuorumHall x = Hall.with(5);
        x.stand(1);
        x.deliver(0);
        Hall.deliverLast(x);
        Check.due("two of five votes", x.of(1, 0), QuorumHall.CANDIDATE);
        x.deliver(0);
        Hall.deliverLast(x);
        Check.due("three of five votes", x.of(1, 0), QuorumHall.LEADER);
        Hall.loseAll(x);
        x.request(1, 0, 1, 7);
        x.beat(1);
        x.deliver(0);
        Hall.deliverLast(x);
        Check.due("two of five know it", x.of(1, 4), 0);
        Check.due("two of five answered", x.leases(), 0);
        x.deliver(0);
        Hall.deliverLast(x);
        Check.due("three of five know it", x.of(1, 4), 1);
        Check.due("three of five answered", x.leases(), 1);
        Hall.loseAll(x);
        x.propose(1, 0, 7);
        x.deliver(0);
        Check.due("two of five promised", Hall.deliverLast(x), 0);
        x.deliver(0);
        Check.due("three of five promised", Hall.deliverLast(x), 4);
        Hall.deliverLast(x);
        Hall.deliverLast(x);
        Check.due("two of five accepted", x.decision(1, 0, 3), -1);
        Hall.deliverLast(x);
        Hall.deliverLast(x);
        Check.due("three of five accepted", x.decision(1, 0, 3), 7);
    }

    /** Machines, the net: "A machine is up, at first, or not." */
    static void upAtFirst() {
        QuorumHall x = Hall.with(5);
        for (int i = 0; i < 5; i++) Check.due("at first", x.of(i, 7), 1);
        x.toggle(3);
        for (int i = 0; i < 5; i++) Check.due("machine " + i, x.of(i, 7), i == 3 ? 0 : 1);
    }

    /** Machines, the net: "Two machines can be cut from each other." */
    static void cutFromEachOther() {
        QuorumHall x = Hall.with(5);
        x.cut(1, 3);
        for (int from = 0; from < 5; from++) {
            for (int to = 0; to < 5; to++) {
                if (from == to) continue;
                x.propose(from, 0, 1);
                int place = Hall.find(x, QuorumHall.PREPARE, to);
                boolean cut = from + to == 4 && (from == 1 || from == 3);
                Object got = Check.thrownBy(() -> x.deliver(place));
                Check.due("from " + from + " to " + to + " is cut", got.equals("IllegalStateException"), cut);
                Hall.loseAll(x);
            }
        }
    }

    /** Machines, the net: "The net is a row of messages, each from a machine to another one; what is sent comes to its end," */
    static void whatIsSentComesToTheEnd() {
        QuorumHall x = Hall.with(3);
        Check.due("an empty row", x.messages(), 0);
        x.stand(1);
        x.propose(2, 0, 5);
        x.stand(0);
        Check.due("the first two", Hall.message(x, 0) + "," + Hall.message(x, 1), "0 1 0 1 0,0 1 2 1 0");
        Check.due("the next two", Hall.message(x, 2) + "," + Hall.message(x, 3), "4 2 0 2 0,4 2 1 2 0");
        Check.due("the last two", Hall.message(x, 4) + "," + Hall.message(x, 5), "0 0 1 1 0,0 0 2 1 0");
        x.deliver(2);
        Check.due("an answer", Hall.message(x, 5), "5 0 2 2 0");
    }

    /** Machines, the net: "but if there are 60 it is lost." */
    static void theSixtiethComes() {
        QuorumHall x = Hall.with(3);
        x.stand(0);
        Hall.fill(x, 58);
        x.propose(2, 0, 5);
        Check.due("both came", Hall.message(x, 58) + "," + Hall.message(x, 59), "4 2 0 2 0,4 2 1 2 0");
        Check.due("sixty", x.messages(), 60);
        Check.noEntry("no more", () -> x.message(60, 0));
    }

    /** Machines, the net: "but if there are 60 it is lost." */
    static void withOnePlaceOnlyTheFirstComes() {
        QuorumHall x = Hall.with(5);
        x.stand(0);
        Hall.fill(x, 59);
        x.propose(2, 0, 5);
        Check.due("sixty", x.messages(), 60);
        Check.due("the first of four", Hall.message(x, 59), "4 2 0 2 0");
        Check.due("behind what was there", Hall.message(x, 58), "0 0 4 1 0");
    }

    /** Machines, the net: "but if there are 60 it is lost." */
    static void theSixtyFirstIsLost() {
        QuorumHall x = Hall.with(5);
        x.stand(0);
        Hall.fill(x, 60);
        String before = Hall.message(x, 0) + Hall.message(x, 58) + Hall.message(x, 59);
        x.propose(2, 0, 5);
        x.stand(3);
        Check.due("sixty", x.messages(), 60);
        Check.due("those that were there", Hall.message(x, 0) + Hall.message(x, 58) + Hall.message(x, 59), before);
        x.lose(59);
        Check.due("what was lost does not come later", x.messages(), 59);
        Check.due("the sender did what it does all the same", x.decision(2, 0, 0) + x.of(3, 1), 3);
        x.propose(1, 0, 5);
        Check.due("the next one that is sent comes", Hall.message(x, 59), "4 1 0 1 0");
    }

    /** Machines, the net: "but if there are 60 it is lost." */
    static void anAnswerFindsThePlaceOfWhatWasDelivered() {
        QuorumHall x = Hall.with(3);
        x.stand(0);
        Hall.fill(x, 60);
        x.deliver(0);
        Check.due("sixty", x.messages(), 60);
        Check.due("the answer", Hall.message(x, 59), "1 1 0 1 0");
    }

    /** Machines, the net: "A message can be delivered, whichever it is," */
    static void anyMessageCanBeDelivered() {
        QuorumHall x = Hall.with(5);
        x.stand(2);
        x.deliver(3);
        x.deliver(1);
        Check.due("the last, then one between", Hall.message(x, 0) + "," + Hall.message(x, 1) + "," + Hall.message(x, 2)
            + "," + Hall.message(x, 3), "0 2 0 1 0,0 2 3 1 0,1 4 2 1 0,1 1 2 1 0");
        x.deliver(0);
        Check.due("the first", Hall.message(x, 0), "0 2 3 1 0");
        x.deliver(1);
        x.deliver(1);
        Check.due("those of later steps ahead of older ones", Hall.of(x, 2), "2 1 2 0 0 0 -1 1");
    }

    /** Machines, the net: "if its machine is up," */
    static void onlyTheMachineItGoesToMustBeUp() {
        QuorumHall x = Hall.with(3);
        x.stand(0);
        x.toggle(1);
        Check.badState("to one that is down", () -> x.deliver(0));
        x.toggle(0);
        Check.due("from one that is down", x.deliver(1), 1);
        x.toggle(1);
        Check.due("to one that is up again", x.deliver(0), 1);
        Check.badState("an answer to one that is down", () -> x.deliver(0));
    }

    /** Machines, the net: "and both are not cut:" */
    static void bothMustNotBeCut() {
        QuorumHall x = Hall.with(3);
        x.stand(0);
        x.cut(1, 2);
        Check.due("another cut", x.deliver(0), 1);
        x.cut(2, 0);
        Check.badState("cut since it was sent", () -> x.deliver(0));
        x.cut(0, 2);
        Check.due("cut no more", x.deliver(0), 1);
        x.cut(0, 1);
        Check.badState("the answer is cut too", () -> x.deliver(0));
    }

    /** Machines, the net: "it leaves the row, and is dealt with at once;" */
    static void itLeavesTheRowAndIsDealtWith() {
        QuorumHall x = Hall.with(3);
        x.stand(0);
        x.deliver(0);
        Check.due("the other ASK, and the answer", Hall.message(x, 0) + "," + Hall.message(x, 1), "0 0 2 1 0,1 1 0 1 0");
        Check.due("both", x.messages(), 2);
        Check.due("dealt with", Hall.of(x, 1), "0 1 0 0 0 0 -1 1");
    }

    /** Machines, the net: "it can be lost," */
    static void oneCanBeLost() {
        QuorumHall x = Hall.with(5);
        x.stand(0);
        x.lose(3);
        x.lose(1);
        x.lose(0);
        Check.due("what is left", x.messages() + ": " + Hall.message(x, 0), "1: 0 0 3 1 0");
        Check.due("nothing is dealt with", x.of(1, 1) + x.of(2, 1) + x.of(4, 1), 0);
        x.lose(0);
        Check.due("none is left", x.messages(), 0);
    }

    /** Machines, the net: "and doubled, by which a like one comes to the end of the row." */
    static void aLikeOneComesToTheEnd() {
        QuorumHall x = Hall.with(5);
        x.stand(0);
        x.twice(1);
        Check.due("five", x.messages(), 5);
        Check.due("the row", Hall.message(x, 0) + "," + Hall.message(x, 1) + "," + Hall.message(x, 2) + ","
            + Hall.message(x, 3) + "," + Hall.message(x, 4), "0 0 1 1 0,0 0 2 1 0,0 0 3 1 0,0 0 4 1 0,0 0 2 1 0");
        x.deliver(1);
        Check.due("it is like it in what it does", Hall.deliverTo(x, QuorumHall.ASK, 2), 1);
        Check.due("two like answers", Hall.message(x, 3) + "," + Hall.message(x, 4), "1 2 0 1 0,1 2 0 1 0");
    }

    /** Machines, the net: "True time is a float, 0 at first." */
    static void trueTimeIsZeroAtFirst() {
        Check.due("a new object", new QuorumHall().pass(1), 0.1f);
        QuorumHall x = new QuorumHall();
        x.pass(7);
        x.begin(5);
        Check.due("behind begin", x.pass(3), 0.3f);
    }

    /** Machines, the net: "Each machine has a clock, that goes by a rate, a float: when true time goes on by some time, the clock goes on by that times its rate;" */
    static void aClockGoesByItsRate() {
        QuorumHall x = Hall.with(5);
        x.rate(1, 500);
        x.rate(2, 1500);
        x.rate(3, 1250);
        x.pass(40);
        Check.due("clocks", x.clock(0) + " " + x.clock(1) + " " + x.clock(2) + " " + x.clock(3) + " " + x.clock(4),
            "4.0 2.0 6.0 5.0 4.0");
        x.rate(1, 1500);
        x.pass(20);
        Check.due("what it showed stays when the rate is another", x.clock(1), 5f);
        Check.due("true time goes by no rate", x.pass(10), 7f);
    }

    /** Machines, the net: "it is 0 at first," */
    static void aClockIsZeroAtFirst() {
        QuorumHall x = new QuorumHall();
        for (int i = 0; i < 3; i++) Check.due("a new object", x.clock(i), 0f);
        x.pass(5);
        x.begin(5);
        for (int i = 0; i < 5; i++) Check.due("behind begin", x.clock(i), 0f);
    }

    /** Machines, the net: "and goes on while the machine is not up." */
    static void aClockGoesOnWhileDown() {
        QuorumHall x = Hall.with(3);
        x.rate(1, 500);
        x.toggle(1);
        Check.due("a crash does not set it", x.clock(1), 0f);
        x.pass(60);
        Check.due("down, by its rate", x.clock(1), 3f);
        x.rate(1, 1500);
        x.pass(20);
        Check.due("down, by a rate that is set while down", x.clock(1), 6f);
        x.toggle(1);
        Check.due("up again", x.clock(1), 6f);
        x.pass(20);
        Check.due("and on", x.clock(1), 9f);
    }

    /** Machines, the net: "All sums and products are those of floats, as they are told." */
    static void sumsAndProductsOfFloats() {
        QuorumHall x = Hall.with(3);
        x.rate(1, 1083);
        Check.due("time", x.pass(1), 0.1f);
        Check.due("a product, each rounded", x.clock(1), 0.1f * 1.083f);
        Check.due("which is not the product rounded once", x.clock(1) == 0.1083f, false);
        for (int i = 0; i < 8; i++) x.pass(1);
        Check.due("a sum, each rounded", x.pass(1), 1.0000001f);
        Check.due("of a clock too", x.clock(0), 1.0000001f);
        float clock = 0f;
        for (int i = 0; i < 10; i++) clock = clock + 0.1f * 1.083f;
        Check.due("of a clock with a rate", x.clock(1), clock);
        x.pass(1000);
        Check.due("a small time behind a great one", x.pass(1), 101.1f);
        x.begin(3);
        x.pass(1);
        x.rate(2, 1496);
        x.pass(1);
        Check.due("the product is rounded ahead of the sum", x.clock(2), 0.24960002f);

        QuorumHall y = Hall.led(3);
        y.spans(1, 85);
        Hall.beatAll(y, 0);
        Check.due("the span times 1 less the bound", y.lease(0), 0.014999998f);
    }
}
