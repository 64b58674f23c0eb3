/** Promises 1 to 7, 16, 21: a new object, begin, toggle, cut, rate, spans, pass, steps, clock. */
public final class BenchTest {
    public static void main(String[] args) {
        newObject();
        begin();
        toggle();
        cut();
        rateAndClock();
        spans();
        pass();
        steps();
        Check.end("BenchTest");
    }

    private static void newObject() {
        QuorumHall x = new QuorumHall();
        for (int i = 0; i < 3; i++) {
            Check.due("of a new machine", Hall.of(x, i), "0 0 -1 0 0 0 -1 1");
            Check.due("clock", x.clock(i), 0f);
            Check.due("lease", x.lease(i), -1f);
            for (int d = 0; d < 4; d++) Check.due("decision", Hall.decision(x, i, d), "-1 -1 -1 -1");
        }
        Check.noEntry("machine 3", () -> x.of(3, 0));
        Check.due("messages, steps, acts, leases", x.messages() + x.steps() + x.acts() + x.leases(), 0);
        Check.due("in order, agreed", x.isInOrder() && x.isAgreed(), true);
        Check.due("the net of a new object has no cuts", x.cut(0, 1), true);
        Check.due("machines of a new object", x.begin(5), 3);
        QuorumHall other = new QuorumHall();
        Check.due("objects have nothing in common", other.steps(), 0);
    }

    private static void begin() {
        QuorumHall x = Hall.led(3);
        x.request(0, 0, 1, 7);
        Hall.beatAll(x, 0);
        Hall.beatAll(x, 0);
        x.propose(1, 2, 5);
        Hall.deliverAll(x);
        x.read(0);
        x.rate(1, 500);
        x.rate(2, 1500);
        x.spans(1, 90);
        x.pass(3);
        x.cut(0, 1);
        x.toggle(2);
        x.propose(0, 0, 0);
        x.twice(0);
        String before = Hall.all(x, 3);
        for (int wrong : new int[] {-1, 0, 1, 2, 4, 6, Integer.MAX_VALUE, Integer.MIN_VALUE}) {
            Check.badArgument("begin(" + wrong + ")", () -> x.begin(wrong));
        }
        Check.due("a begin that throws changes nothing", Hall.all(x, 3), before);
        Check.due("begin(5)", x.begin(5), 3);
        Check.due("begun anew", Hall.all(x, 5), Hall.all(Hall.with(5), 5));
        Check.due("begin(5) once more", x.begin(5), 5);
        Check.due("five machines", x.of(4, 7), 1);
        Check.noEntry("machine 5", () -> x.of(5, 7));
        Check.due("begin(3)", x.begin(3), 5);
        Check.noEntry("machine 3", () -> x.of(3, 7));
        Check.due("no cut is left", x.cut(0, 1), true);
        x.cut(0, 1);
        x.pass(10);
        Check.due("the rates are 1 again", x.clock(1) == 1f && x.clock(2) == 1f, true);
        x.stand(0);
        Hall.deliverAll(x);
        Hall.beatAll(x, 0);
        Check.due("the span is 10 again and the bound 0", x.lease(0), 11f);
        Check.due("no act is left", x.request(0, 0, 1, 8), 1);
        x.pass(1000);
        Hall.beatAll(x, 0);
        x.begin(3);
        x.stand(0);
        Hall.deliverAll(x);
        Hall.beatAll(x, 0);
        Check.due("no clock of an answer is left", x.lease(0), 10f);
    }

    private static void toggle() {
        QuorumHall x = Hall.led(3);
        x.request(0, 0, 1, 7);
        Hall.beatAll(x, 0);
        Check.due("a leader with a commit", Hall.of(x, 0), "2 1 0 1 1 7 -1 1");
        Check.due("toggle", x.toggle(0), false);
        Check.due("down: a follower, commit 0, the rest kept", Hall.of(x, 0), "0 1 0 1 0 0 -1 0");
        Check.due("the lease is gone", x.lease(0), -1f);
        x.pass(10);
        Check.due("the clock goes on while down", x.clock(0), 1f);
        Check.due("toggle", x.toggle(0), true);
        Check.due("up: promises to nobody", Hall.of(x, 0), "0 1 0 1 0 0 0 1");
        x.pass(99);
        Check.due("still promises", x.of(0, 6), 0);
        x.pass(1);
        Check.due("promises no more when the clock shows it", x.of(0, 6), -1);
        Check.due("a follower that promised to a leader", x.of(1, 6), -1);
        Check.noEntry("toggle(-1)", () -> x.toggle(-1));
        Check.noEntry("toggle(3)", () -> x.toggle(3));

        QuorumHall y = Hall.led(3);
        Hall.beatAll(y, 0);
        Check.due("promised to 0", y.of(1, 6), 0);
        y.spans(5, 0);
        y.toggle(1);
        Check.due("what it promised stays till it is up", y.of(1, 6), 0);
        y.toggle(1);
        Check.due("in place of what it promised before", y.of(1, 6), 1);
        y.pass(5);
        Check.due("for the span of now", y.of(1, 6), -1);

        QuorumHall z = Hall.with(3);
        z.stand(0);
        z.toggle(0);
        z.toggle(0);
        Hall.deliverAll(z);
        Check.due("a candidate that crashed counts no votes", z.of(0, 0), 0);
        Check.due("its vote is kept", z.of(0, 2), 0);
    }

    private static void cut() {
        QuorumHall x = Hall.with(5);
        Check.due("cut", x.cut(1, 4), true);
        x.stand(1);
        Check.badState("cut", () -> x.deliver(3));
        x.lose(3);
        Check.due("not cut", x.deliver(2), 1);
        Check.due("cut the other way round", x.cut(4, 1), false);
        Hall.loseAll(x);
        x.stand(4);
        Check.due("no more cut", x.deliver(1), 1);
        Check.badArgument("cut(2, 2)", () -> x.cut(2, 2));
        Check.noEntry("cut(5, 5)", () -> x.cut(5, 5));
        Check.noEntry("cut(-1, 0)", () -> x.cut(-1, 0));
        Check.noEntry("cut(0, -1)", () -> x.cut(0, -1));
        Check.noEntry("cut(0, 5)", () -> x.cut(0, 5));
        x.begin(3);
        Check.noEntry("cut(0, 3)", () -> x.cut(0, 3));
        Check.noEntry("cut(4, 0)", () -> x.cut(4, 0));
    }

    private static void rateAndClock() {
        QuorumHall x = Hall.with(3);
        Check.due("rate answers the clock", x.rate(0, 1500), 0f);
        x.rate(1, 500);
        x.pass(7);
        Check.due("fast", x.clock(0), 0f + 0.7f * 1.5f);
        Check.due("slow", x.clock(1), 0f + 0.7f * 0.5f);
        Check.due("just", x.clock(2), 0.7f);
        Check.due("rate answers the clock of now", x.rate(0, 777), 0.7f * 1.5f);
        x.pass(3);
        Check.due("from now on", x.clock(0), 0.7f * 1.5f + 0.3f * (777f / 1000f));
        for (int wrong : new int[] {499, 1501, 0, -1000, Integer.MAX_VALUE, Integer.MIN_VALUE}) {
            Check.badArgument("rate(0, " + wrong + ")", () -> x.rate(0, wrong));
            Check.noEntry("rate(3, " + wrong + ")", () -> x.rate(3, wrong));
        }
        Check.noEntry("rate(-1, 1000)", () -> x.rate(-1, 1000));
        Check.noEntry("clock(-1)", () -> x.clock(-1));
        Check.noEntry("clock(3)", () -> x.clock(3));
        x.rate(2, 500);
        x.rate(2, 1500);
        float clock = x.clock(0);
        for (int i = 0; i < 20; i++) {
            x.pass(1);
            clock = clock + 0.1f * 0.777f;
        }
        Check.due("sums of floats", x.clock(0), clock);
    }

    private static void spans() {
        QuorumHall x = Hall.led(3);
        for (int[] wrong : new int[][] {{0, 0}, {1001, 0}, {1, -1}, {1000, 91}, {-5, 5}, {Integer.MIN_VALUE, 0}}) {
            Check.badArgument("spans(" + wrong[0] + ", " + wrong[1] + ")", () -> x.spans(wrong[0], wrong[1]));
        }
        x.spans(1, 0);
        Hall.beatAll(x, 0);
        Check.due("the least span", x.lease(0), 0.1f);
        x.spans(1000, 90);
        Hall.beatAll(x, 0);
        Check.due("the greatest span and bound", x.lease(0), 100f * (1f - 0.9f) + 0f);
        x.spans(33, 7);
        Check.due("a lease stays as it was told", x.lease(0), 100f * (1f - 0.9f) + 0f);
        x.pass(1);
        Hall.beatAll(x, 0);
        Check.due("as floats", x.lease(0), 0.1f + 3.3f * (1f - 0.07f));
        x.begin(3);
        x.spans(20, 0);
        x.toggle(0);
        x.toggle(0);
        x.spans(1000, 0);
        x.pass(19);
        Check.due("a promise stays as it was made", x.of(0, 6), 0);
        x.pass(1);
        Check.due("and ends as it was made", x.of(0, 6), -1);
    }

    private static void pass() {
        QuorumHall x = Hall.with(3);
        Check.due("pass(1)", x.pass(1), 0.1f);
        Check.due("pass(1000)", x.pass(1000), 0.1f + 100f);
        float time = 0.1f + 100f;
        for (int i = 0; i < 30; i++) time = time + 0.7f;
        float got = 0f;
        for (int i = 0; i < 30; i++) got = x.pass(7);
        Check.due("a sum of floats", got, time);
        for (int wrong : new int[] {0, -1, 1001, Integer.MAX_VALUE, Integer.MIN_VALUE}) {
            Check.badArgument("pass(" + wrong + ")", () -> x.pass(wrong));
        }
        Check.due("nothing by a pass that throws", x.pass(1), time + 0.1f);
        x.begin(3);
        Check.due("true time is 0 again", x.pass(10), 1f);
    }

    private static void steps() {
        QuorumHall x = Hall.with(3);
        x.toggle(1);
        x.toggle(1);
        x.cut(0, 1);
        x.cut(0, 1);
        x.rate(0, 1000);
        x.spans(1, 0);
        x.pass(5);
        Check.due("steps of the bench", x.steps(), 7);
        x.stand(0);
        x.twice(0);
        x.lose(0);
        x.deliver(0);
        Check.due("steps of the net", x.steps(), 11);
        Hall.deliverAll(x);
        int steps = x.steps();
        x.beat(0);
        x.request(0, 0, 1, 1);
        x.request(0, 0, 1, 1);
        x.propose(0, 0, 1);
        Check.due("steps of leaders and decisions", x.steps(), steps + 4);
        Hall.deliverAll(x);
        Hall.beatAll(x, 0);
        steps = x.steps();
        x.read(0);
        Check.due("a read is a step", x.steps(), steps + 1);
        Check.badState("stand", () -> x.stand(0));
        Check.noEntry("deliver", () -> x.deliver(0));
        Check.badArgument("pass", () -> x.pass(0));
        Check.noEntry("toggle", () -> x.toggle(9));
        x.messages();
        x.of(0, 0);
        x.isInOrder();
        x.isAgreed();
        Check.due("what throws or asks is no step", x.steps(), steps + 1);
        x.begin(3);
        Check.due("begin is no step", x.steps(), 0);
    }
}
