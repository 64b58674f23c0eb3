import java.util.Random;

/** Runs the class and the Model side by side through many seeded random runs, and compares every answer. */
public final class StormTest {
    private static final int RUNS = 1500;
    private static final int CALLS = 240;
    private static int falseOrders = 0, reads = 0, answered = 0, doubleLeases = 0, decided = 0, fullNets = 0, cutBack = 0;

    private final Random random;
    private final QuorumHall hall = new QuorumHall();
    private final Model model = new Model();
    private final String run;
    private int serial = 0;
    private int calls = 0;
    private final int mood;

    private StormTest(int seed) {
        random = new Random(seed);
        run = "run " + seed;
        mood = random.nextInt(6);
    }

    public static void main(String[] args) {
        for (int seed = 0; seed < RUNS; seed++) new StormTest(seed).storm();
        System.out.println("  orders false " + falseOrders + ", reads " + reads + ", writes answered " + answered
            + ", two leases " + doubleLeases + ", decided " + decided + ", net full " + fullNets + ", logs cut " + cutBack);
        Check.due("each of these was met", falseOrders > 20 && reads > 100 && answered > 100 && doubleLeases > 20
            && decided > 100 && fullNets > 20 && cutBack > 20, true);
        Check.end("StormTest");
    }

    private void storm() {
        if (random.nextInt(3) == 0) call("begin(5)", () -> hall.begin(5), () -> model.begin(5));
        if (drifts()) plot();
        while (calls < CALLS) {
            int length = longest();
            if (drifts() && random.nextInt(4) > 0) driftRound();
            else oneCall();
            if (longest() < length) cutBack++;
            compareSome();
        }
        compareAll();
        count();
    }

    private int longest() {
        int sum = 0;
        for (Model.Machine m : model.machines) sum += m.log.size();
        return sum;
    }

    private void count() {
        if (!model.isInOrder()) falseOrders++;
        for (Model.Act a : model.acts) {
            if (!a.write) reads++;
            else if (a.answered != -1) answered++;
        }
        for (Model.Machine m : model.machines) for (Model.Paper p : m.papers) if (p.decided != -1) decided++;
    }

    /** In some moods leaders are cut off while their slow clocks keep their leases, so that old values are read. */
    private boolean drifts() {
        return mood >= 4;
    }

    /** A slow leader is cut off, and another one stands while the lease of the slow one still counts. */
    private void plot() {
        int slow = random.nextInt(model.machines.size());
        int next = (slow + 1 + random.nextInt(model.machines.size() - 1)) % model.machines.size();
        for (int i = 0; i < model.machines.size(); i++) rateNow(i, i == slow ? 500 + random.nextInt(100) : 1500 - random.nextInt(100));
        standNow(slow);
        for (int i = random.nextInt(3); i >= 0; i--) agreeNow(slow, true);
        if (random.nextBoolean()) readNow(slow);
        cutOff(slow);
        passNow(65 + random.nextInt(20));
        standNow(next);
        for (int i = 0; i < 5; i++) {
            if (random.nextInt(3) == 0) request();
            if (random.nextInt(3) > 0) agreeNow(next, random.nextInt(3) > 0);
            readNow(random.nextBoolean() ? slow : next);
        }
    }

    private void driftRound() {
        int l = leader();
        switch (random.nextInt(9)) {
            case 0, 1 -> standNow(machine());
            case 2, 3 -> agreeNow(l, false);
            case 4 -> request();
            case 5 -> readNow(l);
            case 6 -> cutOff(l);
            case 7 -> passNow(near(5, 90));
            default -> loseStuck();
        }
    }

    private void rateNow(int m, int rate) {
        call("rate(" + m + ", " + rate + ")", () -> hall.rate(m, rate), () -> model.rate(m, rate));
    }

    private void passNow(int time) {
        call("pass(" + time + ")", () -> hall.pass(time), () -> model.pass(time));
    }

    private void readNow(int m) {
        call("read(" + m + ")", () -> hall.read(m), () -> model.read(m));
    }

    private void standNow(int m) {
        call("stand(" + m + ")", () -> hall.stand(m), () -> model.stand(m));
        deliverAll();
    }

    private void agreeNow(int m, boolean some) {
        if (some) request();
        call("beat(" + m + ")", () -> hall.beat(m), () -> model.beat(m));
        deliverAll();
    }

    private void cutOff(int l) {
        for (int i = 0; i < model.machines.size(); i++) {
            int other = i;
            if (random.nextInt(5) > 0) call("cut(" + l + ", " + other + ")", () -> hall.cut(l, other), () -> model.cut(l, other));
        }
    }

    private boolean isStuck(Model.Message m) {
        return !model.machines.get(m.to()).up || model.cuts.contains(java.util.Set.of(m.from(), m.to()));
    }

    private void deliverAll() {
        for (int i = 0; i < model.net.size() && calls < CALLS; i++) {
            if (!isStuck(model.net.get(i)) && random.nextInt(20) > 0) {
                int place = i;
                call("deliver(" + place + ")", () -> hall.deliver(place), () -> model.deliver(place));
                i--;
            }
        }
    }

    private void loseStuck() {
        for (int i = model.net.size() - 1; i >= 0; i--) {
            int place = i;
            if (isStuck(model.net.get(i))) call("lose(" + place + ")", () -> hall.lose(place), () -> model.lose(place));
        }
    }

    private void call(String name, java.util.function.Supplier<Object> ours, java.util.function.Supplier<Object> due) {
        calls++;
        Check.due(run + " step " + model.steps + " " + name, Check.thrownBy(ours), Check.thrownBy(due));
    }

    private int machine() {
        return random.nextInt(60) == 0 ? random.nextInt(9) - 2 : random.nextInt(model.machines.size());
    }

    private int place() {
        int count = model.net.size();
        if (random.nextInt(60) == 0 || count == 0) return random.nextInt(70) - 4;
        return random.nextInt(3) > 0 ? random.nextInt(Math.min(count, 4)) : random.nextInt(count);
    }

    private int leader() {
        int from = random.nextInt(model.machines.size());
        for (int i = 0; i < model.machines.size(); i++) {
            int m = (from + i) % model.machines.size();
            if (model.machines.get(m).role == Model.LEADER && random.nextInt(8) > 0) return m;
        }
        return machine();
    }

    private int near(int low, int high) {
        return random.nextInt(40) == 0 ? (random.nextBoolean() ? low - 1 : high + 1) : low + random.nextInt(high - low + 1);
    }

    private void oneCall() {
        int dice = random.nextInt(100);
        boolean ballots = mood == 1 || mood == 2;
        if (dice < (mood == 3 ? 35 : 56)) {
            int i = place();
            call("deliver(" + i + ")", () -> hall.deliver(i), () -> model.deliver(i));
        } else if (dice < 60) {
            int i = place();
            call("twice(" + i + ")", () -> hall.twice(i), () -> model.twice(i));
        } else if (dice < 62) {
            int i = place();
            call("lose(" + i + ")", () -> hall.lose(i), () -> model.lose(i));
        } else if (dice < 65) {
            int i = machine();
            call("stand(" + i + ")", () -> hall.stand(i), () -> model.stand(i));
        } else if (dice < 74) {
            int i = leader();
            call("beat(" + i + ")", () -> hall.beat(i), () -> model.beat(i));
        } else if (dice < 80) {
            request();
        } else if (dice < 87) {
            int i = leader();
            call("read(" + i + ")", () -> hall.read(i), () -> model.read(i));
        } else if (dice < 92) {
            int i = machine();
            int d = ballots ? near(0, 1) : near(0, 3);
            int value = near(0, 999);
            if (ballots || random.nextInt(6) == 0) {
                call("propose(" + i + ", " + d + ", " + value + ")",
                    () -> hall.propose(i, d, value), () -> model.propose(i, d, value));
            }
        } else {
            benchCall();
        }
    }

    private void request() {
        if (mood == 3 && random.nextInt(3) > 0) return;
        int i = leader();
        int client = near(0, 3);
        boolean again = !model.acts.isEmpty() && random.nextInt(3) == 0;
        Model.Act told = again ? model.acts.get(random.nextInt(model.acts.size())) : null;
        int c = told == null ? client : told.client;
        int s = told == null ? (random.nextInt(4) == 0 ? near(1, 99) : 1 + serial++ % 99) : told.serial;
        int v = told == null || random.nextInt(8) == 0 ? (mood == 5 ? near(0, 2) : near(0, 999)) : told.value;
        call("request(" + i + ", " + c + ", " + s + ", " + v + ")",
            () -> hall.request(i, c, s, v), () -> model.request(i, c, s, v));
    }

    private void benchCall() {
        int dice = random.nextInt(24);
        int i = machine();
        int j = machine();
        if (dice < 4) call("toggle(" + i + ")", () -> hall.toggle(i), () -> model.toggle(i));
        else if (dice < 7) call("cut(" + i + ", " + j + ")", () -> hall.cut(i, j), () -> model.cut(i, j));
        else if (dice < 12) {
            int rate = random.nextBoolean() ? (random.nextBoolean() ? 500 : 1500) : near(500, 1500);
            call("rate(" + i + ", " + rate + ")", () -> hall.rate(i, rate), () -> model.rate(i, rate));
        } else if (dice < 14) {
            int span = near(1, random.nextInt(3) == 0 ? 1000 : 150);
            int bound = near(0, 90);
            call("spans(" + span + ", " + bound + ")",
                () -> { hall.spans(span, bound); return 0; }, () -> { model.spans(span, bound); return 0; });
        } else if (dice < 23) {
            int time = random.nextInt(6) == 0 ? near(1, 1000) : near(1, 80);
            call("pass(" + time + ")", () -> hall.pass(time), () -> model.pass(time));
        } else if (random.nextInt(40) == 0) {
            int count = 2 + random.nextInt(5);
            call("begin(" + count + ")", () -> hall.begin(count), () -> model.begin(count));
        }
    }

    private void ask(String name, java.util.function.Supplier<Object> ours, java.util.function.Supplier<Object> due) {
        Check.due(run + " behind step " + model.steps + " " + name, Check.thrownBy(ours), Check.thrownBy(due));
    }

    private void compareSome() {
        ask("steps()", hall::steps, () -> model.steps);
        ask("messages()", hall::messages, model.net::size);
        ask("acts()", hall::acts, model.acts::size);
        ask("leases()", hall::leases, model::leases);
        ask("isAgreed()", hall::isAgreed, model::isAgreed);
        if (model.leases() > 1) doubleLeases++;
        if (model.net.size() == 60) fullNets++;
        if (random.nextInt(3) == 0 && model.net.size() > 20) loseStuck();
        if (random.nextInt(30) == 0) compareAll();
    }

    private void compareAll() {
        for (int i = -1; i <= model.machines.size(); i++) {
            int m = i;
            for (int what = -1; what <= 8; what++) {
                int w = what;
                ask("of(" + m + ", " + w + ")", () -> hall.of(m, w), () -> model.of(m, w));
            }
            ask("clock(" + m + ")", () -> hall.clock(m), () -> model.clock(m));
            ask("lease(" + m + ")", () -> hall.lease(m), () -> model.lease(m));
            for (int d = -1; d <= 4; d++) compareDecision(m, d);
            for (int n = 0; n <= 16; n++) compareEntry(m, n);
        }
        for (int i = -1; i <= model.net.size(); i++) compareMessage(i);
        for (int i = -1; i <= model.acts.size(); i++) compareAct(i);
        ask("isInOrder()", hall::isInOrder, model::isInOrder);
    }

    private void compareDecision(int m, int d) {
        for (int what = -1; what <= 4; what++) {
            int w = what;
            ask("decision(" + m + ", " + d + ", " + w + ")", () -> hall.decision(m, d, w), () -> model.decision(m, d, w));
        }
    }

    private void compareEntry(int m, int n) {
        for (int what = -1; what <= 4; what++) {
            int w = what;
            ask("entry(" + m + ", " + n + ", " + w + ")", () -> hall.entry(m, n, w), () -> model.entry(m, n, w));
        }
    }

    private void compareMessage(int i) {
        for (int what = -1; what <= 5; what++) {
            int w = what;
            ask("message(" + i + ", " + w + ")", () -> hall.message(i, w), () -> model.message(i, w));
        }
    }

    private void compareAct(int i) {
        for (int what = -1; what <= 4; what++) {
            int w = what;
            ask("act(" + i + ", " + w + ")", () -> hall.act(i, w), () -> model.act(i, w));
        }
    }
}
