/** A bench in states that tests begin with, and what they read of it. */
final class Hall {
    private static final int MANY = 1000;

    private Hall() { }

    static QuorumHall with(int machines) {
        QuorumHall x = new QuorumHall();
        x.begin(machines);
        return x;
    }

    /** Delivers the first message so often. */
    static void deliver(QuorumHall x, int times) {
        for (int i = 0; i < times; i++) x.deliver(0);
    }

    /** Delivers the last message in the row, which is the answer if one has just been sent. */
    static int deliverLast(QuorumHall x) {
        return x.deliver(x.messages() - 1);
    }

    /** Delivers the first message until there is none; a bench that never comes to an end is given up. */
    static void deliverAll(QuorumHall x) {
        for (int i = 0; x.messages() > 0 && i < MANY; i++) x.deliver(0);
    }

    /** Delivers all but what goes to that machine, which may be down. */
    static void deliverAllBut(QuorumHall x, int machine) {
        int place = 0;
        while (place < x.messages()) {
            if (x.message(place, 2) == machine) place++;
            else x.deliver(place);
        }
    }

    static void loseAll(QuorumHall x) {
        for (int i = 0; x.messages() > 0 && i < MANY; i++) x.lose(0);
    }

    static void loseAllButLast(QuorumHall x) {
        for (int i = 0; x.messages() > 1 && i < MANY; i++) x.lose(0);
    }

    /** Loses all that goes to that machine. */
    static void loseTo(QuorumHall x, int machine) {
        for (int i = x.messages() - 1; i >= 0; i--) {
            if (x.message(i, 2) == machine) x.lose(i);
        }
    }

    /** Doubles the last message until there are so many. */
    static void fill(QuorumHall x, int messages) {
        for (int i = 0; x.messages() < messages && i < MANY; i++) x.twice(x.messages() - 1);
    }

    /** Down, and up again at once. */
    static void crash(QuorumHall x, int machine) {
        x.toggle(machine);
        x.toggle(machine);
    }

    /** Cuts a machine from all others, or no more. */
    static void cutOff(QuorumHall x, int machine, int machines) {
        for (int i = 0; i < machines; i++) {
            if (i != machine) x.cut(machine, i);
        }
    }

    /** The machine stands, and all that can be delivered is, what goes to or from the cut one being lost. */
    static void lead(QuorumHall x, int machine, int cutOne) {
        x.stand(machine);
        if (cutOne >= 0) loseTo(x, cutOne);
        deliverAll(x);
    }

    /** Machine 0 leads in term 1, and no message is left: 1 + 4 steps with 3 machines, 1 + 8 with 5. */
    static QuorumHall led(int machines) {
        QuorumHall x = with(machines);
        x.stand(0);
        deliverAll(x);
        return x;
    }

    /** Of three, machine 0 holds a lease with an agreed value, is cut off and slow; 1 leads, and 2 follows it. */
    static QuorumHall twoLeases(int value) {
        QuorumHall x = led(3);
        x.rate(0, 500);
        x.rate(1, 1500);
        x.rate(2, 1500);
        x.request(0, 0, 1, value);
        beatAll(x, 0);
        cutOff(x, 0, 3);
        x.pass(80);
        lead(x, 1, 0);
        return x;
    }

    /** Machine 1 agrees with 2 on all in its log, at most three entries. */
    static void agreeBesides0(QuorumHall x) {
        for (int i = 0; i < 2; i++) {
            x.beat(1);
            loseTo(x, 0);
            deliverAll(x);
        }
    }

    static void beatAll(QuorumHall x, int leader) {
        x.beat(leader);
        deliverAll(x);
    }

    /** Delivers the first message in the row that is of that kind and goes to that machine. */
    static int deliverTo(QuorumHall x, int kind, int to) {
        return x.deliver(find(x, kind, to));
    }

    static int find(QuorumHall x, int kind, int to) {
        for (int i = 0; i < x.messages(); i++) {
            if (x.message(i, 0) == kind && x.message(i, 2) == to) return i;
        }
        return -1;
    }

    static String of(QuorumHall x, int machine) {
        StringBuilder told = new StringBuilder();
        for (int what = 0; what < 8; what++) told.append(what == 0 ? "" : " ").append(x.of(machine, what));
        return told.toString();
    }

    static String message(QuorumHall x, int place) {
        StringBuilder told = new StringBuilder();
        for (int what = 0; what < 5; what++) told.append(what == 0 ? "" : " ").append(x.message(place, what));
        return told.toString();
    }

    static String log(QuorumHall x, int machine) {
        StringBuilder told = new StringBuilder();
        for (int n = 1; n <= x.of(machine, 3); n++) {
            told.append(n == 1 ? "" : " ").append(x.entry(machine, n, 0)).append(':').append(x.entry(machine, n, 3));
        }
        return told.toString();
    }

    static String act(QuorumHall x, int act) {
        return x.act(act, 0) + " " + x.act(act, 1) + " " + x.act(act, 2) + " " + x.act(act, 3);
    }

    static String decision(QuorumHall x, int machine, int decision) {
        return x.decision(machine, decision, 0) + " " + x.decision(machine, decision, 1) + " "
            + x.decision(machine, decision, 2) + " " + x.decision(machine, decision, 3);
    }

    /** All that can be asked, so that a call that throws can be shown to change nothing. */
    static String all(QuorumHall x, int machines) {
        StringBuilder told = new StringBuilder();
        told.append(x.steps()).append(' ').append(x.leases()).append(x.isInOrder()).append(x.isAgreed());
        for (int i = 0; i < machines; i++) {
            told.append("\n").append(of(x, i)).append(" / ").append(log(x, i)).append(" / ").append(x.clock(i));
            told.append(" / ").append(x.lease(i));
            for (int d = 0; d < 4; d++) told.append(" / ").append(decision(x, i, d));
        }
        for (int i = 0; i < x.messages(); i++) told.append("\n").append(message(x, i));
        for (int i = 0; i < x.acts(); i++) told.append("\n").append(act(x, i));
        return told.toString();
    }
}
