/** Promises 11, 12, 19, 20: stand, beat, of, entry, and what ASK, VOTE, APPEND and ACK do. */
public final class LeaderTest {
    public static void main(String[] args) {
        stand();
        standRefused();
        votes();
        votesByLogs();
        greaterTerms();
        beat();
        appendCutsBack();
        olderAppendBehindNewer();
        appendOfLowerTerm();
        stepBack();
        staleNo();
        commitOfOwnTermOnly();
        commitOfFollowers();
        knownAnewInEachTerm();
        questions();
        Check.end("LeaderTest");
    }

    private static void stand() {
        QuorumHall x = Hall.with(5);
        Check.due("stand", x.stand(2), 1);
        Check.due("a candidate with its own vote", Hall.of(x, 2), "1 1 2 0 0 0 -1 1");
        Check.due("asks by rising numbers", Hall.message(x, 0) + "," + Hall.message(x, 1) + "," + Hall.message(x, 2)
            + "," + Hall.message(x, 3), "0 2 0 1 0,0 2 1 1 0,0 2 3 1 0,0 2 4 1 0");
        Check.due("a candidate stands again", x.stand(2), 2);
        Check.due("and has its vote again", Hall.of(x, 2), "1 2 2 0 0 0 -1 1");
    }

    private static void standRefused() {
        QuorumHall x = Hall.led(3);
        Check.badState("a leader", () -> x.stand(0));
        Hall.beatAll(x, 0);
        String before = Hall.all(x, 3);
        Check.badState("one that promised to a leader", () -> x.stand(1));
        Check.due("nothing is changed", Hall.all(x, 3), before);
        x.pass(99);
        Check.badState("still", () -> x.stand(1));
        x.pass(1);
        Check.due("no more", x.stand(1), 2);
        x.toggle(2);
        Check.badState("one that is down", () -> x.stand(2));
        x.toggle(2);
        Check.badState("one that is up again", () -> x.stand(2));
        x.pass(100);
        Check.due("later", x.stand(2), 2);
        Check.noEntry("stand(-1)", () -> x.stand(-1));
        Check.noEntry("stand(3)", () -> x.stand(3));
    }

    private static void votes() {
        QuorumHall x = Hall.with(5);
        x.stand(0);
        x.stand(1);
        x.twice(1);
        Check.due("asked by 0", Hall.deliverTo(x, QuorumHall.ASK, 2), 1);
        Check.due("the vote of 2", x.of(2, 2), 0);
        x.deliver(4);
        Check.due("2 is asked by 1 too, but has given it", x.of(2, 2), 0);
        Check.due("a VOTE with its term", Hall.message(x, 7), "1 2 0 1 0");
        Hall.deliverTo(x, QuorumHall.ASK, 2);
        x.deliver(Hall.find(x, QuorumHall.VOTE, 0));
        x.deliver(Hall.find(x, QuorumHall.VOTE, 0));
        Check.due("one vote told twice is one", x.of(0, 0), QuorumHall.CANDIDATE);
        x.deliver(Hall.find(x, QuorumHall.VOTE, 1));
        Check.due("a no is no vote", x.of(1, 0), QuorumHall.CANDIDATE);
        Hall.deliverTo(x, QuorumHall.ASK, 3);
        Hall.deliverTo(x, QuorumHall.VOTE, 0);
        Check.due("with most", Hall.of(x, 0), "2 1 0 0 0 0 -1 1");
        Check.due("a leader answers no vote in its term", Hall.deliverTo(x, QuorumHall.ASK, 0), 1);
        Check.due("and stays one", x.of(0, 0), QuorumHall.LEADER);
        Hall.deliverAll(x);
        Check.due("one leader", x.of(1, 0), QuorumHall.CANDIDATE);

        QuorumHall y = Hall.with(3);
        y.stand(0);
        y.deliver(0);
        y.stand(0);
        Hall.deliverTo(y, QuorumHall.VOTE, 0);
        Check.due("a VOTE of an older term counts nothing", y.of(0, 0), QuorumHall.CANDIDATE);
        Hall.deliverAll(y);
        Check.due("one of its own does", y.of(0, 0), QuorumHall.LEADER);
        Check.due("a leader sends nothing by that", y.messages(), 0);

        QuorumHall z = Hall.with(5);
        z.stand(0);
        z.deliver(0);
        Hall.deliverTo(z, QuorumHall.VOTE, 0);
        Hall.loseAll(z);
        z.stand(0);
        z.deliver(1);
        Hall.deliverTo(z, QuorumHall.VOTE, 0);
        Check.due("votes of the term before are not counted", z.of(0, 0), QuorumHall.CANDIDATE);
        z.deliver(1);
        Hall.deliverTo(z, QuorumHall.VOTE, 0);
        Check.due("two of the same term are", z.of(0, 0), QuorumHall.LEADER);
    }

    private static void votesByLogs() {
        QuorumHall x = Hall.led(3);
        x.request(0, 0, 1, 10);
        x.beat(0);
        x.lose(1);
        Hall.deliverAll(x);
        Check.due("the logs", Hall.log(x, 0) + "," + Hall.log(x, 1) + "," + Hall.log(x, 2), "1:10,1:10,");
        x.stand(2);
        Hall.deliverAll(x);
        Check.due("a shorter log gets no vote", Hall.of(x, 2), "1 2 2 0 0 0 -1 1");
        Check.due("but its term counts", Hall.of(x, 0), "0 2 -1 1 1 10 -1 1");
        x.pass(100);
        x.stand(1);
        Hall.deliverAll(x);
        Check.due("the same log gets it", x.of(1, 0), QuorumHall.LEADER);
        Check.due("of the one with the shorter log too", x.of(2, 2), 1);

        QuorumHall y = twoTerms();
        y.stand(0);
        Hall.deliverAll(y);
        Check.due("a longer log with a lower last term gets no vote", y.of(0, 0), QuorumHall.CANDIDATE);
        y.toggle(1);
        y.toggle(1);
        y.pass(100);
        y.stand(1);
        Hall.deliverAll(y);
        Check.due("a shorter one with a greater last term gets it", y.of(1, 0), QuorumHall.LEADER);
    }

    /** Machine 0 has the log 1:1 1:2 1:3, machines 1 and 2 have 2:9 and term 2, no message is left. */
    private static QuorumHall twoTerms() {
        QuorumHall x = Hall.led(3);
        for (int i = 1; i <= 3; i++) x.request(0, 0, i, i);
        x.cut(0, 1);
        x.cut(0, 2);
        x.stand(1);
        x.lose(0);
        Hall.deliverAll(x);
        x.request(1, 1, 1, 9);
        x.beat(1);
        x.lose(0);
        Hall.deliverAll(x);
        Check.due("the logs of two terms", Hall.log(x, 0) + "," + Hall.log(x, 1) + "," + Hall.log(x, 2), "1:1 1:2 1:3,2:9,2:9");
        x.toggle(0);
        x.toggle(0);
        x.pass(100);
        x.cut(0, 1);
        x.cut(0, 2);
        return x;
    }

    private static void greaterTerms() {
        QuorumHall x = Hall.led(3);
        Hall.beatAll(x, 0);
        x.request(0, 0, 1, 5);
        x.beat(0);
        x.pass(100);
        x.stand(1);
        x.deliver(2);
        Check.due("a leader is a follower by a greater term, and gives its vote", Hall.of(x, 0), "0 2 -1 1 0 0 -1 1");
        Check.due("its lease is gone", x.lease(0), -1f);
        x.stand(2);
        Hall.deliverTo(x, QuorumHall.VOTE, 1);
        Check.due("both are candidates of term 2", x.of(1, 0) + x.of(2, 0) + x.of(2, 1), 4);
        Check.due("a machine in term 3", x.stand(2), 3);
        Hall.deliverTo(x, QuorumHall.APPEND, 2);
        Check.due("is what it was by an APPEND of term 1", Hall.of(x, 2), "1 3 2 0 0 0 -1 1");
        Check.due("it answers with its term", Hall.message(x, x.messages() - 1), "3 2 0 3 0");
        x.deliver(x.messages() - 1);
        Check.due("an ACK tells a greater term too", Hall.of(x, 0), "0 3 -1 1 0 0 -1 1");

        QuorumHall y = Hall.with(3);
        y.stand(0);
        y.stand(1);
        y.stand(1);
        y.deliver(0);
        y.deliver(y.messages() - 1);
        Check.due("a VOTE tells a greater term too", Hall.of(y, 0), "0 2 -1 0 0 0 -1 1");
    }

    private static void beat() {
        QuorumHall x = Hall.led(3);
        Check.due("none", x.beat(0), 0);
        Hall.deliverAll(x);
        for (int i = 1; i <= 5; i++) x.request(0, 0, i, 10 * i);
        Check.due("three for each", x.beat(0), 6);
        Check.due("to all others, by rising numbers", Hall.message(x, 0) + "," + Hall.message(x, 1), "2 0 1 1 3,2 0 2 1 3");
        Check.due("the same again, as nothing is known", x.beat(0), 6);
        Hall.loseAll(x);
        x.beat(0);
        x.deliver(0);
        x.deliver(x.messages() - 1);
        Check.due("two for the one that answered", x.beat(0), 5);
        Check.noEntry("beat(3)", () -> x.beat(3));
        Check.noEntry("beat(-1)", () -> x.beat(-1));
        Check.badState("a follower", () -> x.beat(1));
        x.pass(100);
        x.stand(1);
        Check.badState("a candidate", () -> x.beat(1));
        x.toggle(0);
        Check.badState("one that is down", () -> x.beat(0));
        x.toggle(0);
        Check.badState("one that is up again", () -> x.beat(0));
    }

    private static void appendCutsBack() {
        QuorumHall x = twoTerms();
        x.beat(1);
        x.deliver(0);
        Check.due("the entry of the other term is cut, with all behind", Hall.log(x, 0), "2:9");
        Check.due("the client of the new one", x.entry(0, 1, 1), 1);
        Hall.deliverAll(x);
        Check.due("agreed", x.of(1, 4), 1);

        QuorumHall y = Hall.led(3);
        for (int i = 1; i <= 3; i++) y.request(0, 0, i, i);
        y.beat(0);
        y.request(0, 0, 4, 4);
        y.lose(1);
        y.twice(0);
        y.deliver(0);
        Hall.deliverTo(y, QuorumHall.ACK, 0);
        y.beat(0);
        Hall.deliverTo(y, QuorumHall.APPEND, 1);
        Check.due("the one that was doubled came", y.of(1, 3), 3);
        Hall.deliverTo(y, QuorumHall.APPEND, 1);
        Check.due("the fourth entry", Hall.log(y, 1), "1:1 1:2 1:3 1:4");
        y.beat(0);
        Hall.deliverTo(y, QuorumHall.APPEND, 1);
        Check.due("nothing is cut by what is there", Hall.log(y, 1), "1:1 1:2 1:3 1:4");
    }

    private static void olderAppendBehindNewer() {
        QuorumHall x = Hall.led(3);
        x.request(0, 0, 1, 1);
        x.beat(0);
        x.request(0, 0, 2, 2);
        x.beat(0);
        x.deliver(2);
        x.deliver(x.messages() - 1);
        Check.due("agreed by the newer one", x.of(0, 4), 2);
        x.beat(0);
        x.deliver(x.messages() - 2);
        Check.due("1 has both, and the commit", Hall.of(x, 1), "0 1 0 2 2 2 0 1");
        x.deliver(0);
        Check.due("the older one cuts nothing, and takes no commit back", Hall.of(x, 1), "0 1 0 2 2 2 0 1");
        Check.due("its answer tells the last entry that came", x.deliver(x.messages() - 1), 0);
        Check.due("nothing more for 1", x.beat(0) - x.message(x.messages() - 1, 4), 0);
    }

    private static void appendOfLowerTerm() {
        QuorumHall x = Hall.led(3);
        x.request(0, 0, 1, 1);
        x.beat(0);
        x.stand(1);
        x.deliver(0);
        Check.due("a candidate of a greater term stays one", Hall.of(x, 1), "1 2 1 0 0 0 -1 1");
        Check.due("no promise by that", x.of(1, 6), -1);
        x.begin(3);
        x.stand(0);
        x.stand(1);
        x.deliver(1);
        x.deliver(x.messages() - 1);
        x.beat(0);
        Check.due("a candidate", x.of(1, 0), QuorumHall.CANDIDATE);
        Hall.deliverTo(x, QuorumHall.ASK, 1);
        Hall.deliverTo(x, QuorumHall.APPEND, 1);
        Check.due("is a follower by an APPEND of its term", Hall.of(x, 1), "0 1 1 0 0 0 0 1");
    }

    private static void stepBack() {
        QuorumHall x = Hall.led(3);
        x.request(0, 0, 1, 1);
        Hall.beatAll(x, 0);
        for (int i = 2; i <= 5; i++) x.request(0, 0, i, i);
        x.toggle(0);
        x.toggle(0);
        x.pass(100);
        x.stand(0);
        Hall.deliverAll(x);
        x.beat(0);
        Check.due("all is supposed to be there", Hall.message(x, 0), "2 0 1 2 0");
        x.deliver(0);
        Check.due("no promise by a no", x.of(1, 6), -1);
        Check.due("no entry 5, so no, and 1", x.deliver(1), 0);
        Hall.loseAll(x);
        Check.due("the three behind the first", x.beat(0), 3);
        x.deliver(0);
        Check.due("came", Hall.log(x, 1), "1:1 1:2 1:3 1:4");

        QuorumHall y = twoTerms();
        y.cut(0, 1);
        y.cut(0, 2);
        for (int i = 2; i <= 4; i++) y.request(1, 1, i, 10 + i);
        Hall.deliverAll(y);
        y.beat(1);
        y.lose(0);
        Hall.deliverAll(y);
        Check.due("2 has them", Hall.log(y, 2), "2:9 2:12 2:13 2:14");
        y.cut(0, 1);
        y.cut(0, 2);
        y.toggle(1);
        y.toggle(1);
        y.pass(100);
        y.stand(1);
        y.lose(0);
        Hall.deliverAll(y);
        y.beat(1);
        y.deliver(0);
        y.deliver(y.messages() - 1);
        Hall.loseAll(y);
        y.beat(1);
        Check.due("3 is the length of the log of 0", Hall.message(y, 0), "2 1 0 3 1");
        y.deliver(0);
        y.deliver(y.messages() - 1);
        Hall.loseAll(y);
        y.beat(1);
        Check.due("its third entry is another, so 2", Hall.message(y, 0), "2 1 0 3 2");
        y.deliver(0);
        y.deliver(y.messages() - 1);
        Hall.loseAll(y);
        y.beat(1);
        y.deliver(0);
        y.deliver(y.messages() - 1);
        Hall.loseAll(y);
        Check.due("nothing of it is cut by a no", Hall.log(y, 0), "1:1 1:2 1:3");
        y.beat(1);
        y.deliver(0);
        Check.due("at 0 all is put in its place", Hall.log(y, 0), "2:9 2:12 2:13");
    }

    /** A no sets back what a leader supposes, also behind a yes; a yes that tells nothing new does not mend that. */
    private static void staleNo() {
        QuorumHall x = Hall.led(3);
        for (int i = 1; i <= 5; i++) x.request(0, 0, i, i);
        x.beat(0);
        x.deliver(0);
        Hall.loseAllButLast(x);
        x.deliver(0);
        Check.due("known of 1: 3 entries, of 2: none", x.beat(0), 2 + 3);
        Hall.loseAll(x);
        x.toggle(0);
        x.toggle(0);
        x.pass(100);
        x.stand(0);
        Hall.deliverAll(x);
        Check.due("a new leader supposes the logs to be as long as its own", x.beat(0), 0);
        x.deliver(0);
        x.lose(0);
        Check.due("the no", Hall.message(x, 0), "3 1 0 2 0");
        x.twice(0);
        x.deliver(0);
        Check.due("1 has 3 entries", x.beat(0), 2);
        Hall.deliverTo(x, QuorumHall.APPEND, 1);
        x.deliver(x.messages() - 1);
        Check.due("now 5", x.beat(0), 0);
        Check.due("the no of old is the first still", Hall.message(x, 0), "3 1 0 2 0");
        x.deliver(0);
        Check.due("it sets back", x.beat(0), 2);
        x.deliver(x.messages() - 2);
        x.deliver(x.messages() - 1);
        Check.due("a yes that tells no more than known sets nothing", x.beat(0), 2);
        x.request(0, 1, 1, 6);
        Hall.loseAll(x);
        x.beat(0);
        x.deliver(0);
        x.deliver(1);
        Check.due("one that tells more does, and agrees", x.of(0, 4), 6);
        x.request(0, 1, 2, 7);
        Check.due("one for 1, two for 2", x.beat(0), 1 + 2);
    }

    private static void commitOfOwnTermOnly() {
        QuorumHall x = Hall.led(3);
        x.request(0, 0, 1, 1);
        x.beat(0);
        x.deliver(0);
        Hall.loseAll(x);
        x.toggle(0);
        x.toggle(0);
        x.pass(100);
        x.stand(0);
        Hall.deliverAll(x);
        Hall.beatAll(x, 0);
        Hall.beatAll(x, 0);
        Check.due("an entry of an older term is everywhere", Hall.log(x, 1) + "," + Hall.log(x, 2), "1:1,1:1");
        Check.due("but not agreed", x.of(0, 4), 0);
        x.request(0, 0, 2, 2);
        Hall.beatAll(x, 0);
        Check.due("until one of its own is", x.of(0, 4), 2);
    }

    private static void commitOfFollowers() {
        QuorumHall x = Hall.led(5);
        for (int i = 1; i <= 4; i++) x.request(0, i % 4, i, i);
        x.beat(0);
        Hall.deliver(x, 4);
        x.deliver(0);
        Check.due("two of five", x.of(0, 4), 0);
        x.deliver(0);
        Check.due("three of five", x.of(0, 4), 3);
        Hall.deliverAll(x);
        Check.due("followers don't know yet", x.of(1, 4), 0);
        x.beat(0);
        x.deliver(0);
        Check.due("by the next APPEND they do, as far as the leader", Hall.of(x, 1), "0 1 0 4 3 3 0 1");
        Hall.loseAll(x);
        x.beat(0);
        x.deliver(3);
        Check.due("not more than came", x.of(4, 4), 3);
        x.toggle(1);
        Check.due("the commit is gone by a crash", Hall.of(x, 1), "0 1 0 4 0 0 0 0");

        QuorumHall y = Hall.led(3);
        for (int i = 1; i <= 5; i++) y.request(0, 0, i, i);
        y.cut(0, 2);
        for (int i = 0; i < 2; i++) {
            y.beat(0);
            y.deliver(i);
            y.deliver(y.messages() - 1);
        }
        Check.due("agreed with 1", y.of(0, 4), 5);
        Hall.loseAll(y);
        y.cut(0, 2);
        y.beat(0);
        y.deliver(1);
        Check.due("2 knows of no more than came", Hall.of(y, 2), "0 1 0 3 3 3 0 1");
    }

    private static void knownAnewInEachTerm() {
        QuorumHall x = Hall.led(5);
        for (int i = 1; i <= 3; i++) x.request(0, 0, i, i);
        x.beat(0);
        x.deliver(0);
        x.deliver(x.messages() - 1);
        Hall.loseAll(x);
        x.stand(2);
        x.lose(0);
        x.lose(0);
        Hall.deliverAll(x);
        x.request(2, 1, 1, 9);
        Hall.beatAll(x, 2);
        Check.due("0 had let 1 know 3 entries, which are cut", Hall.log(x, 0) + "," + Hall.log(x, 1), "2:9,2:9");
        x.pass(100);
        x.stand(0);
        Hall.deliverAll(x);
        x.request(0, 2, 1, 7);
        x.request(0, 2, 2, 8);
        x.beat(0);
        x.deliver(2);
        x.deliver(x.messages() - 1);
        Check.due("two of five know the new ones", Hall.of(x, 0), "2 3 0 3 0 0 -1 1");
        x.deliver(0);
        x.deliver(x.messages() - 1);
        Check.due("three do", Hall.of(x, 0), "2 3 0 3 3 8 -1 1");
    }

    private static void questions() {
        QuorumHall x = Hall.led(3);
        x.request(0, 3, 99, 999);
        Check.due("an entry", x.entry(0, 1, 0) + " " + x.entry(0, 1, 1) + " " + x.entry(0, 1, 2) + " " + x.entry(0, 1, 3), "1 3 99 999");
        Check.noEntry("entry 0", () -> x.entry(0, 0, 0));
        Check.noEntry("entry 2", () -> x.entry(0, 2, 0));
        Check.noEntry("entry -1", () -> x.entry(0, -1, 0));
        Check.noEntry("entry of 1", () -> x.entry(1, 1, 0));
        Check.noEntry("no entry, wrong what", () -> x.entry(0, 2, 9));
        Check.noEntry("machine 3", () -> x.entry(3, 1, 0));
        Check.badArgument("what 4", () -> x.entry(0, 1, 4));
        Check.badArgument("what -1", () -> x.entry(0, 1, -1));
        Check.badArgument("of what 8", () -> x.of(0, 8));
        Check.badArgument("of what -1", () -> x.of(0, -1));
        Check.noEntry("of machine 3", () -> x.of(3, 8));
        Check.noEntry("of machine -1", () -> x.of(-1, 0));
    }
}
