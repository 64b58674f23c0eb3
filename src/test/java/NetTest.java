/** Promises 8 to 10, 17, 18: deliver, lose, twice, messages, message. */
public final class NetTest {
    public static void main(String[] args) {
        deliver();
        lose();
        twice();
        fullRow();
        message();
        Check.end("NetTest");
    }

    private static void deliver() {
        QuorumHall x = Hall.with(3);
        x.stand(0);
        Check.due("the second one", x.deliver(1), 1);
        Check.due("the first one stays", Hall.message(x, 0), "0 0 1 1 0");
        Check.due("the answer is at the end", Hall.message(x, 1), "1 2 0 1 0");
        x.toggle(0);
        Check.due("from a machine that is down", x.deliver(0), 1);
        String before = Hall.all(x, 3);
        Check.badState("to a machine that is down", () -> x.deliver(0));
        Check.due("nothing is changed by that", Hall.all(x, 3), before);
        x.toggle(0);
        x.cut(2, 0);
        Check.badState("cut", () -> x.deliver(0));
        Check.due("it stays in the row", x.messages(), 2);
        Check.due("the other one", x.deliver(1), 0);
        Check.noEntry("deliver(-1)", () -> x.deliver(-1));
        Check.noEntry("deliver(1)", () -> x.deliver(1));
        Check.noEntry("deliver(max)", () -> x.deliver(Integer.MAX_VALUE));
        Hall.loseAll(x);
        Check.noEntry("none", () -> x.deliver(0));
    }

    private static void lose() {
        QuorumHall x = Hall.with(5);
        x.stand(2);
        Check.due("four", x.messages(), 4);
        Check.due("lose(1)", x.lose(1), 3);
        Check.due("the first", Hall.message(x, 0), "0 2 0 1 0");
        Check.due("the next", Hall.message(x, 1), "0 2 3 1 0");
        Check.due("the last", x.lose(2), 2);
        x.toggle(0);
        x.cut(2, 3);
        Check.due("down or cut does not matter", x.lose(0) + x.lose(0), 1);
        Check.noEntry("none", () -> x.lose(0));
        Check.noEntry("lose(-1)", () -> x.lose(-1));
        Check.noEntry("lose(60)", () -> x.lose(60));
    }

    private static void twice() {
        QuorumHall x = Hall.led(3);
        x.request(0, 1, 2, 3);
        x.beat(0);
        x.request(0, 1, 3, 4);
        x.beat(0);
        Check.due("twice", x.twice(2), 5);
        Check.due("a like one at the end", Hall.message(x, 4), Hall.message(x, 2));
        Check.due("with its entries", Hall.message(x, 4), "2 0 1 1 2");
        x.deliver(4);
        Check.due("which are put", Hall.log(x, 1), "1:3 1:4");
        x.deliver(2);
        Check.due("and found there by the first", Hall.log(x, 1), "1:3 1:4");
        x.cut(0, 2);
        Check.due("cut does not matter", x.twice(1), x.messages());
        Check.noEntry("twice(-1)", () -> x.twice(-1));
        Check.noEntry("twice(6)", () -> x.twice(6));

        QuorumHall y = Hall.with(3);
        y.propose(0, 3, 9);
        y.twice(0);
        Check.due("a doubled ballot", Hall.message(y, 2), "4 0 1 0 0");
        y.deliver(2);
        Check.due("is for its decision", y.decision(1, 3, 0), 0);
        doubledAlone();
    }

    /** Doubles the first message, loses it, and delivers the like one. */
    private static int deliverLike(QuorumHall x) {
        x.twice(0);
        x.lose(0);
        return x.deliver(x.messages() - 1);
    }

    private static void doubledAlone() {
        QuorumHall x = Hall.with(3);
        x.stand(0);
        x.deliver(0);
        x.lose(0);
        deliverLike(x);
        Check.due("a like VOTE says yes", x.of(0, 0), QuorumHall.LEADER);
        x.pass(20);
        x.request(0, 0, 1, 4);
        x.beat(0);
        x.lose(1);
        deliverLike(x);
        Check.due("a like APPEND", Hall.log(x, 1), "1:4");
        deliverLike(x);
        Check.due("a like ACK has the clock of the APPEND, which had that of the leader", x.lease(0), 12f);
        Check.due("and the number", x.of(0, 4), 1);
        x.beat(0);
        x.lose(1);
        deliverLike(x);
        Check.due("a like APPEND has the commit", x.of(1, 4), 1);
        Hall.loseAll(x);
        x.toggle(1);
        x.toggle(1);
        x.pass(100);
        x.stand(2);
        x.lose(0);
        deliverLike(x);
        deliverLike(x);
        Check.due("a like ASK has the number of entries, a like VOTE the no", x.of(2, 0), QuorumHall.CANDIDATE);
        x.stand(1);
        x.lose(0);
        deliverLike(x);
        deliverLike(x);
        Check.due("a longer log", x.of(1, 0), QuorumHall.LEADER);

        QuorumHall y = Hall.with(3);
        y.propose(1, 0, 8);
        y.lose(0);
        deliverLike(y);
        deliverLike(y);
        y.lose(0);
        deliverLike(y);
        Check.due("a like ACCEPT has the value", Hall.decision(y, 2, 0), "1 1 8 -1");
        y.propose(0, 0, 7);
        Hall.loseAll(y);
        y.propose(0, 0, 9);
        y.lose(0);
        deliverLike(y);
        deliverLike(y);
        Check.due("a like PROMISED has what was accepted", Hall.decision(y, 0, 0), "8 8 8 -1");
        y.lose(0);
        deliverLike(y);
        deliverLike(y);
        Check.due("a like ACCEPTED", Hall.decision(y, 0, 0), "8 8 8 8");
    }

    private static void fullRow() {
        QuorumHall x = Hall.led(5);
        x.request(0, 0, 1, 6);
        for (int i = 0; i < 15; i++) Check.due("entries in a beat", x.beat(0), 4);
        Check.due("60 is full", x.messages(), 60);
        Check.due("what is lost counts as sent", x.beat(0), 4);
        Check.due("but is lost", x.messages(), 60);
        Check.due("a like one is lost too", x.twice(0), 60);
        x.stand(1);
        Check.due("no ASK came to its end", Hall.message(x, 59), "2 0 4 1 1");
        Check.due("an answer takes the place", x.deliver(0), 1);
        Check.due("full again", x.messages(), 60);
        Check.due("the answer", Hall.message(x, 59), "3 1 0 2 0");
        x.lose(0);
        x.propose(4, 0, 1);
        Check.due("one PREPARE found a place", Hall.message(x, 59), "4 4 0 4 0");
        Check.due("the others did not", Hall.message(x, 58), "3 1 0 2 0");

        QuorumHall y = Hall.with(5);
        y.propose(0, 0, 8);
        Hall.deliver(y, 4);
        Check.due("four answers", y.messages(), 4);
        for (int i = 0; i < 56; i++) y.twice(3);
        Check.due("full", y.messages(), 60);
        Check.due("the first of two", y.deliver(0), 0);
        y.twice(58);
        Check.due("those that are lost are counted", y.deliver(0), 4);
        Check.due("one came in", y.messages(), 60);
        Check.due("the first ACCEPT", Hall.message(y, 59), "6 0 1 0 0");
        Hall.loseAll(y);
        y.stand(0);
        Check.due("after a full row", Hall.message(y, 3), "0 0 4 1 0");
    }

    private static void message() {
        QuorumHall x = Hall.led(3);
        for (int i = 1; i <= 4; i++) x.request(0, 0, i, i);
        x.beat(0);
        Check.due("an APPEND has up to 3 entries", Hall.message(x, 1), "2 0 2 1 3");
        x.deliver(1);
        Check.due("an ACK", Hall.message(x, 1), "3 2 0 1 0");
        Hall.loseAll(x);
        x.propose(1, 0, 5);
        x.propose(1, 0, 5);
        Check.due("a PREPARE with its ballot", Hall.message(x, 2), "4 1 0 9 0");
        x.deliver(2);
        Check.due("PROMISED", Hall.message(x, 3), "5 0 1 9 0");
        x.deliver(3);
        Check.due("ACCEPT", Hall.message(x, 3), "6 1 0 9 0");
        x.deliver(4);
        Check.due("ACCEPTED", Hall.message(x, 4), "7 2 1 9 0");
        Check.badArgument("what 5", () -> x.message(0, 5));
        Check.badArgument("what -1", () -> x.message(0, -1));
        Check.noEntry("no message", () -> x.message(5, 0));
        Check.noEntry("no message, wrong what", () -> x.message(5, 7));
        Check.noEntry("message -1", () -> x.message(-1, 0));
        Check.due("asking changes nothing", x.messages(), 5);
    }
}
