/** Promises 27 and 28: isInOrder, isAgreed. */
public final class OrderTest {
    public static void main(String[] args) {
        inOrder();
        staleRead();
        staleReadOfTheSameValue();
        overlapping();
        unansweredWrites();
        agreed();
        Check.end("OrderTest");
    }

    private static void inOrder() {
        QuorumHall x = Hall.led(3);
        Check.due("no acts", x.isInOrder(), true);
        for (int i = 1; i <= 4; i++) {
            x.request(0, i - 1, i, 10 * i);
            Hall.beatAll(x, 0);
            x.read(0);
            Check.due("in order", x.isInOrder(), true);
        }
        int steps = x.steps();
        x.isInOrder();
        Check.due("asking is no step", x.steps(), steps);
    }

    private static void staleRead() {
        QuorumHall x = Hall.twoLeases(11);
        x.request(1, 1, 1, 22);
        Check.due("the old value, while the new write is not answered", x.read(0), 11);
        Check.due("in order", x.isInOrder(), true);
        Hall.agreeBesides0(x);
        Check.due("in order", x.isInOrder(), true);
        Check.due("the old value behind the new one", x.read(0), 11);
        Check.due("is not in order", x.isInOrder(), false);
        Check.due("but the logs are agreed", x.isAgreed(), true);
        Check.due("the new one", x.read(1), 22);
        Check.due("does not mend it", x.isInOrder(), false);
        x.begin(3);
        Check.due("begin does", x.isInOrder(), true);
    }

    private static void staleReadOfTheSameValue() {
        QuorumHall x = Hall.twoLeases(11);
        x.request(1, 1, 1, 22);
        x.request(1, 1, 2, 11);
        Hall.agreeBesides0(x);
        Check.due("both have the value", x.read(0) + x.read(1), 22);
        Check.due("so it is in order, though one is stale", x.isInOrder(), true);

        QuorumHall y = Hall.twoLeases(0);
        y.request(1, 1, 1, 22);
        Hall.agreeBesides0(y);
        y.read(0);
        Check.due("0 was there at first, but not behind the 22", y.isInOrder(), false);
    }

    private static void overlapping() {
        QuorumHall x = Hall.twoLeases(11);
        x.request(1, 1, 1, 22);
        x.request(1, 2, 1, 11);
        x.request(1, 3, 1, 33);
        Hall.agreeBesides0(x);
        Check.due("three answered at once", x.act(1, 3) == x.act(3, 3), true);
        Check.due("the last in the log", x.read(1), 33);
        Check.due("in order", x.isInOrder(), true);
        Check.due("a stale one", x.read(0), 11);
        Check.due("is not, as 33 was read and no write can come between", x.isInOrder(), false);

        QuorumHall y = Hall.twoLeases(11);
        y.request(1, 1, 1, 22);
        y.request(1, 2, 1, 11);
        y.request(1, 3, 1, 33);
        Hall.agreeBesides0(y);
        y.read(0);
        Check.due("a stale one alone: the other 11 may have been the last", y.isInOrder(), true);
        y.read(1);
        Check.due("not any more", y.isInOrder(), false);
    }

    private static void unansweredWrites() {
        QuorumHall x = Hall.twoLeases(11);
        x.request(0, 2, 1, 11);
        Check.due("a write to the one that is cut off", x.act(1, 3), -1);
        x.request(1, 1, 1, 22);
        Hall.agreeBesides0(x);
        Check.due("read 22", x.read(1), 22);
        Check.due("then 11", x.read(0), 11);
        Check.due("the write without an answer may come between", x.isInOrder(), true);
        Check.due("then 22", x.read(1), 22);
        Check.due("which none can put back", x.isInOrder(), false);

        QuorumHall y = Hall.led(3);
        y.request(0, 0, 5, 50);
        y.request(0, 0, 4, 40);
        Hall.beatAll(y, 0);
        y.read(0);
        Check.due("a write that is nowhere need not come", y.isInOrder(), true);
    }

    private static void agreed() {
        QuorumHall x = Hall.twoLeases(11);
        x.request(0, 2, 1, 5);
        x.request(1, 1, 1, 6);
        Check.due("unlike entries, not agreed on", Hall.log(x, 0) + "," + Hall.log(x, 1), "1:11 1:5,1:11 2:6");
        Check.due("are no harm", x.isAgreed(), true);
        Hall.agreeBesides0(x);
        Check.due("nor when one is agreed on elsewhere", x.isAgreed(), true);
        x.propose(1, 0, 3);
        x.lose(0);
        Hall.deliverTo(x, QuorumHall.PREPARE, 2);
        Hall.deliverTo(x, QuorumHall.PROMISED, 1);
        Hall.deliverTo(x, QuorumHall.ACCEPT, 2);
        Hall.deliverTo(x, QuorumHall.ACCEPTED, 1);
        Check.due("decided by 1 alone", x.decision(1, 0, 3) + "," + x.decision(2, 0, 3), "3,-1");
        Check.due("is agreed", x.isAgreed(), true);
        Hall.loseAll(x);
        x.cut(0, 1);
        x.cut(0, 2);
        x.propose(0, 0, 4);
        Hall.deliverAll(x);
        x.propose(0, 0, 4);
        Hall.deliverAll(x);
        Check.due("0 decides the same", x.decision(0, 0, 3), 3);
        x.propose(2, 1, 4);
        Hall.deliverAll(x);
        Check.due("unlike decisions of unlike numbers", x.decision(2, 1, 3), 4);
        Check.due("are agreed", x.isAgreed(), true);
    }
}
