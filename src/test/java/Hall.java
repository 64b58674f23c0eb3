/** A bench in states that tests begin with, and what they read of it. */
final class Hall {
    private Hall() { }

    static QuorumHall with(int machines) {
        QuorumHall x = new QuorumHall();
        x.begin(machines);
        return x;
    }

    /** Delivers the first message so often. */
    static void deliver(QuorumHall x, int times) {
        for (int i = 0; i < times; i++) x.deliver(0);
    }

    /** Delivers the first message until there is none. */
    static void deliverAll(QuorumHall x) {
        while (x.messages() > 0) x.deliver(0);
    }

    /** Delivers all but what goes to that machine, which may be down. */
    static void deliverAllBut(QuorumHall x, int machine) {
        int place = 0;
        while (place < x.messages()) {
            if (x.message(place, 2) == machine) place++;
            else x.deliver(place);
        }
    }

    static void loseAll(QuorumHall x) {
        while (x.messages() > 0) x.lose(0);
    }

    static void loseAllButLast(QuorumHall x) {
        while (x.messages() > 1) x.lose(0);
    }

    /** Machine 0 leads in term 1, and no message is left: 1 + 4 steps with 3 machines, 1 + 8 with 5. */
    static QuorumHall led(int machines) {
        QuorumHall x = with(machines);
        x.stand(0);
        deliverAll(x);
        return x;
    }

    static void beatAll(QuorumHall x, int leader) {
        x.beat(leader);
        deliverAll(x);
    }

    /** Delivers the first message in the row that is of that kind and goes to that machine. */
    static int deliverTo(QuorumHall x, int kind, int to) {
        return x.deliver(find(x, kind, to));
    }

    static int find(QuorumHall x, int kind, int to) {
        for (int i = 0; i < x.messages(); i++) {
            if (x.message(i, 0) == kind && x.message(i, 2) == to) return i;
        }
        return -1;
    }

    static String of(QuorumHall x, int machine) {
        StringBuilder told = new StringBuilder();
        for (int what = 0; what < 8; what++) told.append(what == 0 ? "" : " ").append(x.of(machine, what));
        return told.toString();
    }

    static String message(QuorumHall x, int place) {
        StringBuilder told = new StringBuilder();
        for (int what = 0; what < 5; what++) told.append(what == 0 ? "" : " ").append(x.message(place, what));
        return told.toString();
    }

    static String log(QuorumHall x, int machine) {
        StringBuilder told = new StringBuilder();
        for (int n = 1; n <= x.of(machine, 3); n++) {
            told.append(n == 1 ? "" : " ").append(x.entry(machine, n, 0)).append(':').append(x.entry(machine, n, 3));
        }
        return told.toString();
    }

    static String act(QuorumHall x, int act) {
        return x.act(act, 0) + " " + x.act(act, 1) + " " + x.act(act, 2) + " " + x.act(act, 3);
    }

    static String decision(QuorumHall x, int machine, int decision) {
        return x.decision(machine, decision, 0) + " " + x.decision(machine, decision, 1) + " "
            + x.decision(machine, decision, 2) + " " + x.decision(machine, decision, 3);
    }

    /** All that can be asked, so that a call that throws can be shown to change nothing. */
    static String all(QuorumHall x, int machines) {
        StringBuilder told = new StringBuilder();
        told.append(x.steps()).append(' ').append(x.leases()).append(x.isInOrder()).append(x.isAgreed());
        for (int i = 0; i < machines; i++) {
            told.append("\n").append(of(x, i)).append(" / ").append(log(x, i)).append(" / ").append(x.clock(i));
            told.append(" / ").append(x.lease(i));
            for (int d = 0; d < 4; d++) told.append(" / ").append(decision(x, i, d));
        }
        for (int i = 0; i < x.messages(); i++) told.append("\n").append(message(x, i));
        for (int i = 0; i < x.acts(); i++) told.append("\n").append(act(x, i));
        return told.toString();
    }
}
