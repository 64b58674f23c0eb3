/** Promises 15 and 24: propose, decision, and what PREPARE, PROMISED, ACCEPT and ACCEPTED do. */
public final class DecisionTest {
    public static void main(String[] args) {
        ballots();
        propose();
        refused();
        prepare();
        promised();
        accept();
        accepted();
        greatestAccepted();
        crash();
        apart();
        Check.end("DecisionTest");
    }

    private static void ballots() {
        QuorumHall x = Hall.with(5);
        Check.due("the first ballot of 4", x.propose(4, 0, 0), 4);
        Check.due("the next", x.propose(4, 0, 0), 12);
        Hall.deliverTo(x, QuorumHall.PREPARE, 3);
        Check.due("3 promised 4", x.decision(3, 0, 0), 4);
        Check.due("the least of 3 above 4", x.propose(3, 0, 0), 11);
        Hall.loseAll(x);
        Check.due("another decision", x.propose(3, 3, 0), 3);
        x.propose(3, 3, 0);
        Hall.loseAllButLast(x);
        x.deliver(0);
        Check.due("4 promised 11", x.decision(4, 3, 0), 11);
        Check.due("the least of 4 above 11", x.propose(4, 3, 1), 12);
        x.begin(3);
        Check.due("0 is the least", x.propose(0, 0, 0), 0);
        Check.due("8 times a round", x.propose(0, 0, 0), 8);
    }

    private static void propose() {
        QuorumHall x = Hall.with(5);
        x.propose(2, 1, 999);
        Check.due("promised, and no more", Hall.decision(x, 2, 1), "2 -1 -1 -1");
        Check.due("to all others, by rising numbers", Hall.message(x, 0) + "," + Hall.message(x, 1) + ","
            + Hall.message(x, 2) + "," + Hall.message(x, 3), "4 2 0 2 0,4 2 1 2 0,4 2 3 2 0,4 2 4 2 0");
        Check.due("a PREPARE is answered", x.deliver(0), 1);
        Check.due("one answer", x.deliver(3), 0);
        Check.due("is too few", x.decision(2, 1, 1), -1);
        x.deliver(0);
        Check.due("two, with its own", x.deliver(2), 4);
        Check.due("it accepts", Hall.decision(x, 2, 1), "2 2 999 -1");
        Check.due("ACCEPT", Hall.message(x, 2), "6 2 0 2 0");
        x.deliver(2);
        x.deliver(2);
        Check.due("two accepted", Hall.decision(x, 0, 1) + "," + Hall.decision(x, 1, 1), "2 2 999 -1,2 2 999 -1");
        x.deliver(x.messages() - 1);
        Check.due("not decided yet", x.decision(2, 1, 3), -1);
        x.deliver(x.messages() - 1);
        Check.due("decided", Hall.decision(x, 2, 1), "2 2 999 999");
        Hall.deliverAll(x);
        Check.due("the others don't know", x.decision(0, 1, 3), -1);
        Check.due("agreed", x.isAgreed(), true);
    }

    private static void refused() {
        QuorumHall x = Hall.with(3);
        String before = Hall.all(x, 3);
        Check.noEntry("machine 3", () -> x.propose(3, 0, 0));
        Check.noEntry("machine -1", () -> x.propose(-1, 0, 0));
        Check.noEntry("decision 4", () -> x.propose(0, 4, 1000));
        Check.noEntry("decision -1", () -> x.propose(0, -1, 0));
        Check.badArgument("value 1000", () -> x.propose(0, 0, 1000));
        Check.badArgument("value -1", () -> x.propose(0, 0, -1));
        Check.noEntry("decision of 3", () -> x.decision(3, 0, 0));
        Check.noEntry("decision 4", () -> x.decision(0, 4, 9));
        Check.noEntry("decision -1", () -> x.decision(0, -1, 0));
        Check.badArgument("what 4", () -> x.decision(0, 0, 4));
        Check.badArgument("what -1", () -> x.decision(0, 0, -1));
        Check.due("nothing is changed", Hall.all(x, 3), before);
        x.toggle(1);
        Check.badState("one that is down", () -> x.propose(1, 0, 0));
        Check.badArgument("down, wrong value", () -> x.propose(1, 0, 1000));
        x.toggle(1);
        Check.due("one that is up again", x.propose(1, 0, 0), 1);
    }

    private static void prepare() {
        QuorumHall x = Hall.with(3);
        x.propose(1, 0, 5);
        x.twice(1);
        Check.due("answered", x.deliver(1), 1);
        Check.due("the same ballot is not above", x.deliver(1), 0);
        x.propose(0, 0, 6);
        Check.due("a lower ballot is not answered", Hall.deliverTo(x, QuorumHall.PREPARE, 2), 0);
        Check.due("promised is what it was", x.decision(2, 0, 0), 1);
    }

    private static void promised() {
        QuorumHall x = Hall.with(5);
        x.propose(0, 0, 5);
        x.deliver(0);
        x.twice(3);
        x.deliver(3);
        x.deliver(3);
        Check.due("one answer told twice is one", x.decision(0, 0, 1), -1);
        x.propose(4, 0, 6);
        Hall.deliverTo(x, QuorumHall.PREPARE, 2);
        Hall.deliverTo(x, QuorumHall.PREPARE, 0);
        Check.due("0 promised a greater ballot since", x.decision(0, 0, 0), 4);
        Hall.deliverTo(x, QuorumHall.PROMISED, 0);
        Check.due("so it does not go on", x.decision(0, 0, 1), -1);

        QuorumHall y = Hall.with(3);
        y.propose(0, 0, 5);
        y.deliver(0);
        y.deliver(0);
        Check.due("goes on", y.deliver(0), 2);
        Check.due("once", y.deliver(0), 0);

        QuorumHall z = Hall.with(3);
        z.propose(0, 0, 5);
        z.deliver(0);
        z.propose(0, 0, 6);
        Hall.deliverTo(z, QuorumHall.PROMISED, 0);
        Check.due("an answer to the ballot of old counts nothing", Hall.decision(z, 0, 0), "8 -1 -1 -1");
        Hall.deliverAll(z);
        Check.due("the new one takes its place", Hall.decision(z, 0, 0), "8 8 6 6");
    }

    private static void accept() {
        QuorumHall x = Hall.with(3);
        x.propose(0, 2, 5);
        x.deliver(0);
        x.deliver(1);
        Check.due("2 promised nothing", x.decision(2, 2, 0), -1);
        Hall.deliverTo(x, QuorumHall.ACCEPT, 2);
        Check.due("it accepts all the same, and promises", Hall.decision(x, 2, 2), "0 0 5 -1");
        Check.due("ACCEPTED", Hall.message(x, x.messages() - 1), "7 2 0 0 0");
        Check.due("a later PREPARE is not above", Hall.deliverTo(x, QuorumHall.PREPARE, 2), 0);
        x.propose(2, 2, 6);
        Hall.deliverTo(x, QuorumHall.PREPARE, 1);
        Check.due("1 promised a greater one", x.decision(1, 2, 0), 2);
        Check.due("so it does not accept", Hall.deliverTo(x, QuorumHall.ACCEPT, 1), 0);
        Check.due("nothing", Hall.decision(x, 1, 2), "2 -1 -1 -1");
    }

    private static void accepted() {
        QuorumHall x = Hall.with(5);
        x.propose(0, 0, 5);
        Hall.deliver(x, 4);
        Hall.deliver(x, 4);
        x.deliver(0);
        x.twice(3);
        x.deliver(3);
        x.deliver(3);
        Check.due("one ACCEPTED told twice is one", x.decision(0, 0, 3), -1);
        x.propose(1, 0, 6);
        Hall.deliverTo(x, QuorumHall.PREPARE, 0);
        Check.due("0 promised a greater ballot", x.decision(0, 0, 0), 1);
        Hall.deliverTo(x, QuorumHall.ACCEPT, 2);
        Hall.deliverTo(x, QuorumHall.ACCEPTED, 0);
        Check.due("and still counts what is accepted", Hall.decision(x, 0, 0), "1 0 5 5");

        QuorumHall y = Hall.with(3);
        y.propose(0, 0, 5);
        Hall.deliver(y, 2);
        Hall.deliver(y, 2);
        Hall.deliver(y, 2);
        y.propose(0, 0, 6);
        Hall.deliverTo(y, QuorumHall.ACCEPTED, 0);
        Check.due("what was counted for the one of old is gone", y.decision(0, 0, 3), -1);
        Hall.deliverAll(y);
        Check.due("the new one has the old value", Hall.decision(y, 0, 0), "8 8 5 5");
    }

    private static void greatestAccepted() {
        QuorumHall x = Hall.with(5);
        acceptOnlyBy(x, 1, 2, 21);
        acceptOnlyBy(x, 3, 4, 43);
        Check.due("1 and 3 accepted", Hall.decision(x, 1, 0) + "," + Hall.decision(x, 3, 0), "1 1 21 -1,3 3 43 -1");
        x.propose(0, 0, 99);
        Check.due("a ballot above", x.decision(0, 0, 0), 8);
        x.deliver(x.messages() - 2);
        x.deliver(x.messages() - 1);
        Check.due("not gone on", x.decision(0, 0, 1), -1);
        Hall.deliverTo(x, QuorumHall.PREPARE, 1);
        x.deliver(x.messages() - 1);
        Check.due("the value with the greatest ballot among the answers", Hall.decision(x, 0, 0), "8 8 43 -1");

        QuorumHall y = Hall.with(3);
        y.propose(0, 0, 7);
        y.deliver(0);
        y.deliver(1);
        Hall.loseAll(y);
        Check.due("0 accepted alone", Hall.decision(y, 0, 0), "0 0 7 -1");
        y.propose(0, 0, 8);
        Hall.deliverAll(y);
        Check.due("its own answer counts", Hall.decision(y, 0, 0), "8 8 7 7");
    }

    /** The machine goes on with its first ballot, and its ACCEPTs are lost; a helper and 0 or 2 promise it. */
    private static void acceptOnlyBy(QuorumHall x, int machine, int helper, int value) {
        x.propose(machine, 0, value);
        Hall.deliverTo(x, QuorumHall.PREPARE, helper);
        Hall.deliverTo(x, QuorumHall.PREPARE, 0);
        x.deliver(x.messages() - 2);
        x.deliver(x.messages() - 1);
        Hall.loseAll(x);
    }

    private static void crash() {
        QuorumHall x = Hall.with(3);
        x.propose(0, 0, 5);
        x.deliver(0);
        x.toggle(0);
        x.toggle(0);
        Check.due("what it promised is kept", x.decision(0, 0, 0), 0);
        Hall.deliverAll(x);
        Check.due("the proposal is not", Hall.decision(x, 0, 0), "0 -1 -1 -1");
        x.propose(0, 0, 6);
        Hall.deliver(x, 2);
        x.deliver(0);
        x.toggle(0);
        x.toggle(0);
        Check.due("what it accepted is kept", Hall.decision(x, 0, 0), "8 8 6 -1");
        Hall.deliverAll(x);
        Check.due("but nothing is counted", Hall.decision(x, 0, 0), "8 8 6 -1");
        x.propose(1, 0, 7);
        Hall.deliverAll(x);
        Check.due("1 decides what 0 accepted", Hall.decision(x, 1, 0), "9 9 6 6");
        x.toggle(1);
        Check.due("what was decided stays known", Hall.decision(x, 1, 0), "9 9 6 6");
        x.toggle(1);
        x.propose(1, 0, 8);
        Check.due("also while it proposes anew", Hall.decision(x, 1, 0), "17 9 6 6");
        x.begin(3);
        Check.due("but not behind begin", Hall.decision(x, 1, 0), "-1 -1 -1 -1");
    }

    private static void apart() {
        QuorumHall x = Hall.with(3);
        x.propose(0, 0, 1);
        x.propose(0, 1, 2);
        x.propose(1, 2, 3);
        x.propose(2, 3, 4);
        Hall.deliverAll(x);
        Check.due("four decisions", x.decision(0, 0, 3) + " " + x.decision(0, 1, 3) + " " + x.decision(1, 2, 3) + " "
            + x.decision(2, 3, 3), "1 2 3 4");
        Check.due("ballots are no terms", Hall.of(x, 0), "0 0 -1 0 0 0 -1 1");
        Check.due("no promise of a vote", x.of(1, 6), -1);
        Check.due("no acts", x.acts(), 0);
        Check.due("agreed", x.isAgreed(), true);
    }
}
