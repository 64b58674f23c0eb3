/** Promises 22, 23, and what a machine promises with a yes. */
public final class LeaseTest {
    public static void main(String[] args) {
        lease();
        leaseOfFive();
        boundCounts();
        latestClock();
        gone();
        promise();
        drift();
        Check.end("LeaseTest");
    }

    private static void lease() {
        QuorumHall x = Hall.led(3);
        x.pass(25);
        x.beat(0);
        x.pass(5);
        Check.due("none", x.lease(0), -1f);
        x.deliver(0);
        Check.due("none before a yes comes", x.leases(), 0);
        x.deliver(1);
        Check.due("from the clock of the APPEND", x.lease(0), 12.5f);
        Check.due("of 1", x.lease(1), -1f);
        Check.due("one is held", x.leases(), 1);
        x.pass(94);
        Check.due("still", x.leases(), 1);
        x.pass(1);
        Check.due("over when the clock shows it", x.leases(), 0);
        Check.due("but it is told", x.lease(0), 12.5f);
        Check.noEntry("lease(3)", () -> x.lease(3));
        Check.noEntry("lease(-1)", () -> x.lease(-1));
    }

    private static void leaseOfFive() {
        QuorumHall x = Hall.led(5);
        for (int i = 0; i < 4; i++) {
            x.pass(10);
            x.beat(0);
        }
        x.deliver(8);
        x.deliver(x.messages() - 1);
        Check.due("two of five", x.lease(0), -1f);
        x.deliver(12);
        x.deliver(x.messages() - 1);
        Check.due("three of five, by the lesser clock of the others", x.lease(0), 13f);
        x.deliver(2);
        x.deliver(x.messages() - 1);
        Check.due("a fourth with an older one does not matter", x.lease(0), 13f);
        x.deliver(x.messages() - 1);
        x.deliver(x.messages() - 1);
        Check.due("one with a later one does", x.lease(0), 14f);
    }

    private static void boundCounts() {
        QuorumHall x = Hall.led(3);
        x.spans(77, 13);
        x.pass(9);
        x.beat(0);
        x.deliver(0);
        x.deliver(1);
        Check.due("span times 1 less bound", x.lease(0), 0.9f + 7.7f * (1f - 0.13f));
        Check.due("a promise is for the whole span", x.of(1, 6), 0);
        x.spans(10, 0);
        x.deliver(0);
        x.deliver(0);
        Check.due("the span counts when the yes comes, in place of what it was", x.lease(0), 0.9f + 1f);
        x.pass(10);
        Check.due("and when it is promised", x.of(2, 6), -1);
        Check.due("1 promised longer", x.of(1, 6), 0);
    }

    private static void latestClock() {
        QuorumHall x = Hall.led(3);
        x.beat(0);
        x.pass(10);
        x.beat(0);
        x.deliver(2);
        x.deliver(x.messages() - 1);
        Check.due("the later one first", x.lease(0), 11f);
        x.deliver(0);
        x.deliver(x.messages() - 1);
        Check.due("the older one behind it does not count", x.lease(0), 11f);
        x.spans(20, 0);
        x.deliver(0);
        x.deliver(x.messages() - 1);
        Check.due("a yes of another renews it with the latest", x.lease(0), 3f);
    }

    private static void gone() {
        QuorumHall x = Hall.led(3);
        Hall.beatAll(x, 0);
        Check.due("a lease", x.lease(0), 10f);
        x.toggle(2);
        x.toggle(2);
        x.spans(1, 0);
        x.toggle(2);
        x.toggle(2);
        x.pass(1);
        x.stand(2);
        x.deliver(0);
        Check.due("gone with a new term", x.lease(0), -1f);
        Hall.loseAll(x);

        QuorumHall y = Hall.led(3);
        Hall.beatAll(y, 0);
        y.beat(0);
        y.deliver(0);
        y.toggle(0);
        Check.due("gone by a crash", y.lease(0) + y.leases(), -1f);
        y.toggle(0);
        y.pass(100);
        y.stand(0);
        y.deliver(1);
        Check.due("an ACK of old counts nothing", y.lease(0), -1f);
        Hall.deliverAll(y);
        Check.due("a new leader has none", y.of(0, 0) == 2 && y.lease(0) == -1f, true);
        y.beat(0);
        y.deliver(0);
        y.deliver(1);
        Check.due("until a yes of its term", y.lease(0), 20f);

        QuorumHall z = Hall.led(5);
        Hall.beatAll(z, 0);
        z.toggle(0);
        z.toggle(0);
        z.pass(100);
        z.stand(0);
        Hall.deliverAll(z);
        z.beat(0);
        z.deliver(0);
        z.deliver(z.messages() - 1);
        Check.due("answers of the term before don't count", z.lease(0), -1f);
        z.deliver(0);
        z.deliver(z.messages() - 1);
        Check.due("two of this one do", z.lease(0), 20f);
    }

    private static void promise() {
        QuorumHall x = Hall.led(5);
        x.beat(0);
        x.deliver(0);
        Check.due("1 promised to 0", x.of(1, 6), 0);
        Hall.loseAll(x);
        x.stand(2);
        Hall.deliverTo(x, QuorumHall.ASK, 1);
        Check.due("no vote for another", Hall.of(x, 1), "0 2 -1 0 0 0 0 1");
        Hall.deliverTo(x, QuorumHall.VOTE, 2);
        Check.due("which counts nothing", x.of(2, 0), QuorumHall.CANDIDATE);
        Hall.loseAll(x);
        x.toggle(0);
        x.spans(1, 0);
        x.toggle(0);
        x.pass(1);
        x.stand(0);
        Hall.deliverTo(x, QuorumHall.ASK, 1);
        Check.due("but for the one that it promised to", Hall.of(x, 1), "0 2 0 0 0 0 0 1");
        Hall.loseAll(x);
        x.spans(100, 0);
        x.toggle(3);
        x.toggle(3);
        x.stand(2);
        Hall.deliverTo(x, QuorumHall.ASK, 3);
        Check.due("one that is up again gives no vote", Hall.of(x, 3), "0 3 -1 0 0 0 3 1");
        x.stand(0);
        Hall.deliverTo(x, QuorumHall.ASK, 3);
        Check.due("to anyone", x.of(3, 2), -1);
        x.pass(100);
        Hall.loseAll(x);
        x.stand(0);
        Hall.deliverTo(x, QuorumHall.ASK, 3);
        Check.due("until it promises no more", x.of(3, 2), 0);

        QuorumHall y = Hall.led(3);
        y.rate(1, 500);
        Hall.beatAll(y, 0);
        y.pass(199);
        Check.due("by its own clock", y.of(1, 6), 0);
        Check.due("2 has a faster one", y.of(2, 6), -1);
        y.pass(1);
        Check.due("till then", y.of(1, 6), -1);
    }

    private static void drift() {
        QuorumHall x = Hall.led(3);
        x.rate(0, 500);
        x.rate(1, 1500);
        x.rate(2, 1500);
        Hall.beatAll(x, 0);
        x.cut(0, 1);
        x.cut(0, 2);
        x.pass(80);
        x.stand(1);
        x.lose(0);
        Hall.deliverAll(x);
        x.beat(1);
        x.lose(0);
        Hall.deliverAll(x);
        Check.due("two hold a lease", x.leases(), 2);
        Check.due("of 0", x.lease(0), 10f);
        Check.due("of 1", x.lease(1), 0f + 8f * 1.5f + 10f);
        x.pass(120);
        Check.due("none", x.leases(), 0);
    }
}
