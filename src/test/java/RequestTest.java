/** Promises 13, 14, 25, 26: request, read, acts, act. */
public final class RequestTest {
    public static void main(String[] args) {
        request();
        requestOnce();
        requestRefused();
        fourteenActs();
        lostWrite();
        answeredByAnother();
        read();
        readRefused();
        act();
        Check.end("RequestTest");
    }

    private static void request() {
        QuorumHall x = Hall.led(3);
        Check.due("the first entry", x.request(0, 3, 99, 999), 1);
        Check.due("the second", x.request(0, 0, 1, 0), 2);
        Check.due("both are there", x.entry(0, 1, 2) * 1000 + x.entry(0, 1, 3), 99999);
        Check.due("not agreed yet", Hall.of(x, 0), "2 1 0 2 0 0 -1 1");
        Hall.beatAll(x, 0);
        Check.due("agreed", Hall.of(x, 0), "2 1 0 2 2 0 -1 1");
        x.request(0, 1, 1, 44);
        Check.due("a value counts when it is agreed", x.of(0, 5), 0);
        Hall.beatAll(x, 0);
        Check.due("then", x.of(0, 5), 44);
        Check.due("of a follower that knows of two", x.of(1, 5), 0);
    }

    private static void requestOnce() {
        QuorumHall x = Hall.led(3);
        Check.due("serial 5", x.request(0, 2, 5, 50), 1);
        Check.due("told once more", x.request(0, 2, 5, 50), 1);
        Check.due("one act", x.acts(), 1);
        Check.due("a step all the same", x.steps(), 7);
        Check.due("its beginning stays", x.act(0, 2), 6);
        Check.due("a lower serial is put nowhere", x.request(0, 2, 4, 40), 0);
        Check.due("the log", Hall.log(x, 0), "1:50");
        Check.due("though the act is kept", Hall.act(x, 1), "1 40 8 -1");
        Check.due("the same serial of another client", x.request(0, 1, 5, 51), 2);
        Check.due("a greater one", x.request(0, 2, 6, 60), 3);
        Check.due("the older one is still there", x.request(0, 2, 5, 50), 1);
        Check.badArgument("another value", () -> x.request(0, 2, 5, 49));
        Check.badArgument("another value of an act that is nowhere", () -> x.request(0, 2, 4, 41));
        Check.badArgument("at a follower too", () -> x.request(1, 2, 5, 49));
        Check.due("acts", x.acts(), 4);
    }

    private static void requestRefused() {
        QuorumHall x = Hall.led(3);
        String before = Hall.all(x, 3);
        for (int client : new int[] {-1, 4, Integer.MAX_VALUE}) {
            Check.noEntry("client " + client, () -> x.request(0, client, 1, 1));
            Check.noEntry("client and serial", () -> x.request(1, client, 0, -1));
        }
        Check.noEntry("machine 3", () -> x.request(3, 0, 0, 1));
        Check.noEntry("machine -1", () -> x.request(-1, 0, 1, 1));
        for (int serial : new int[] {0, -1, 100, Integer.MIN_VALUE}) {
            Check.badArgument("serial " + serial, () -> x.request(0, 0, serial, 1));
            Check.badArgument("serial at a follower", () -> x.request(1, 0, serial, 1));
        }
        for (int value : new int[] {-1, 1000, Integer.MAX_VALUE}) {
            Check.badArgument("value " + value, () -> x.request(0, 0, 1, value));
        }
        Check.badState("a follower", () -> x.request(1, 0, 1, 1));
        Check.due("nothing is changed", Hall.all(x, 3), before);
        x.stand(2);
        Check.badState("a candidate", () -> x.request(2, 0, 1, 1));
        x.toggle(0);
        Check.badState("one that is down", () -> x.request(0, 0, 1, 1));
        x.toggle(0);
        Check.badState("one that is up again", () -> x.request(0, 0, 1, 1));
        Check.due("no act", x.acts(), 0);
    }

    private static void fourteenActs() {
        QuorumHall x = Hall.led(3);
        for (int i = 1; i <= 12; i++) x.request(0, i % 4, i, i);
        Check.due("twelve", x.acts(), 12);
        for (int i = 0; i < 6; i++) Hall.beatAll(x, 0);
        Check.due("all are agreed", x.of(0, 4), 12);
        x.read(0);
        x.request(0, 0, 13, 13);
        Check.due("fourteen", x.acts(), 14);
        String before = Hall.all(x, 3);
        Check.badState("one more", () -> x.request(0, 0, 14, 14));
        Check.badState("a read more", () -> x.read(0));
        Check.due("nothing is changed", Hall.all(x, 3), before);
        Check.due("one of them can be told once more", x.request(0, 0, 13, 13), 13);
        Check.due("and another", x.request(0, 1, 1, 1), 1);
        Check.badArgument("but not with another value", () -> x.request(0, 1, 1, 2));
        Check.due("in order", x.isInOrder(), true);
        x.begin(3);
        Check.due("no acts", x.acts(), 0);
    }

    private static void lostWrite() {
        QuorumHall x = Hall.led(3);
        x.request(0, 0, 1, 5);
        x.cut(0, 1);
        x.cut(0, 2);
        x.stand(1);
        x.lose(0);
        Hall.deliverAll(x);
        Check.due("another leader does not have it", x.request(1, 0, 1, 5), 1);
        Check.due("it is the same act", x.acts(), 1);
        Check.due("at its own time", x.act(0, 2), 6);
        x.beat(1);
        x.lose(0);
        x.deliver(0);
        int step = x.steps();
        x.deliver(0);
        Check.due("answered when the entry of the other one is agreed", x.act(0, 3), step + 1);
        Check.due("in the log of 0 it is another entry", x.entry(0, 1, 0) + x.entry(1, 1, 0), 3);
    }

    /** A write is answered by a leader of a later term, with its first own entry that is agreed. */
    private static void answeredByAnother() {
        QuorumHall x = Hall.led(3);
        x.request(0, 0, 1, 5);
        x.beat(0);
        x.deliver(0);
        Hall.loseAll(x);
        x.toggle(0);
        x.pass(100);
        x.stand(1);
        x.lose(0);
        Hall.deliverAll(x);
        x.request(1, 1, 1, 6);
        Check.due("not answered", x.act(0, 3), -1);
        x.beat(1);
        x.lose(0);
        x.deliver(0);
        Check.due("2 lacks the first entry", x.of(2, 3), 0);
        x.deliver(0);
        x.beat(1);
        x.lose(0);
        x.deliver(0);
        Check.due("2 has both", x.of(2, 3), 2);
        x.deliver(0);
        Check.due("both are answered in one step", x.act(0, 3) == x.steps() && x.act(1, 3) == x.steps(), true);
        Check.due("the value is that of the last", x.of(1, 5), 6);
        int step = x.steps();
        x.beat(1);
        Hall.deliverAllBut(x, 0);
        Check.due("answered once", x.act(0, 3), step);
    }

    private static void read() {
        QuorumHall x = Hall.led(3);
        x.request(0, 0, 1, 5);
        Hall.beatAll(x, 0);
        int step = x.steps();
        Check.due("read", x.read(0), 5);
        Check.due("an act, answered at once", Hall.act(x, 1), "0 5 " + (step + 1) + " " + (step + 1));
        x.request(0, 0, 2, 6);
        Check.due("what is not agreed is not read", x.read(0), 5);
        Check.due("a read is an act each time", x.acts(), 4);
        Hall.beatAll(x, 0);
        Check.due("read", x.read(0), 6);
        Check.due("in order", x.isInOrder(), true);
    }

    private static void readRefused() {
        QuorumHall x = Hall.led(3);
        Check.badState("no lease", () -> x.read(0));
        Hall.beatAll(x, 0);
        Check.badState("commit 0", () -> x.read(0));
        x.request(0, 0, 1, 5);
        Hall.beatAll(x, 0);
        Check.badState("a follower", () -> x.read(1));
        x.pass(100);
        String before = Hall.all(x, 3);
        Check.badState("the lease is over", () -> x.read(0));
        Check.due("nothing is changed", Hall.all(x, 3), before);
        Hall.beatAll(x, 0);
        Check.due("a lease again", x.read(0), 5);
        x.pass(100);
        x.stand(1);
        Hall.deliverAll(x);
        Hall.beatAll(x, 1);
        Check.due("a new leader knows the commit", x.of(1, 4), 1);
        Check.due("and holds a lease", x.leases(), 1);
        Check.badState("but that is no entry of its term", () -> x.read(1));
        x.request(1, 0, 2, 6);
        Hall.beatAll(x, 1);
        Check.due("now it is", x.read(1), 6);
        x.toggle(1);
        Check.badState("one that is down", () -> x.read(1));
        Check.noEntry("machine 3", () -> x.read(3));
        Check.noEntry("machine -1", () -> x.read(-1));
    }

    private static void act() {
        QuorumHall x = Hall.led(3);
        Check.noEntry("no act", () -> x.act(0, 0));
        x.request(0, 0, 1, 7);
        Hall.beatAll(x, 0);
        x.read(0);
        Check.due("a write, answered by the first of two yes", Hall.act(x, 0), "1 7 6 10");
        Check.due("a read", Hall.act(x, 1), "0 7 12 12");
        Check.due("two", x.acts(), 2);
        Check.badArgument("what 4", () -> x.act(0, 4));
        Check.badArgument("what -1", () -> x.act(1, -1));
        Check.noEntry("act 2", () -> x.act(2, 0));
        Check.noEntry("act -1", () -> x.act(-1, 0));
        Check.noEntry("act 2, wrong what", () -> x.act(2, 4));
    }
}
