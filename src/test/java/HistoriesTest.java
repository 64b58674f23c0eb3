import java.util.Random;

/**
 * Promise 27 through many seeded histories of two leaders: 0 is slow, so that it keeps its lease and goes on reading
 * what is old, while 1 leads; answers to both come late. Few values are written, so that many writes suit a read.
 * Model tries all orders.
 */
public final class HistoriesTest {
    private static final int RUNS = 30000;
    private static final int ACTS = 14;
    private static int inOrder = 0, inNone = 0;

    private final QuorumHall hall = new QuorumHall();
    private final Random random;
    private final String run;
    private final int[][] writes = new int[ACTS][];
    private int written = 0;
    private final int values;

    private HistoriesTest(int seed) {
        random = new Random(seed);
        run = "run " + seed;
        values = 2 + random.nextInt(2);
    }

    public static void main(String[] args) {
        for (int seed = 0; seed < RUNS; seed++) new HistoriesTest(seed).tell();
        System.out.println("  in order " + inOrder + ", in none " + inNone);
        Check.due("both were met", inOrder > RUNS / 10 && inNone > RUNS / 10, true);
        Check.end("HistoriesTest");
    }

    private void tell() {
        for (int i = 0; i < 3; i++) hall.rate(i, i == 0 ? 500 : 1500);
        hall.stand(0);
        Hall.deliverAll(hall);
        int early = 2 + random.nextInt(5);
        for (int i = 0; i < 60 && hall.acts() < early; i++) oneCall(0);
        if (random.nextBoolean()) send(0);
        hall.pass(80);
        hall.stand(1);
        Hall.deliverTo(hall, QuorumHall.ASK, 2);
        Hall.deliverTo(hall, QuorumHall.VOTE, 1);
        // its log may be behind that of 2
        if (hall.of(1, 0) != QuorumHall.LEADER) return;
        for (int i = 0; i < 60 && hall.acts() < ACTS; i++) oneCall(random.nextInt(2));
        if (compare()) inOrder++;
        else inNone++;
    }

    private void oneCall(int leader) {
        int dice = random.nextInt(10);
        if (dice < 2) write(leader);
        else if (dice < 4) send(leader);
        else if (dice < 8) hear(leader);
        else read(leader);
    }

    /** A new write, or one that was told before, perhaps to the other leader. */
    private void write(int leader) {
        boolean again = hall.acts() == ACTS || written > 0 && random.nextInt(3) == 0;
        if (!again) writes[written++] = new int[] {random.nextInt(4), written, 1 + random.nextInt(values)};
        int[] write = writes[again ? random.nextInt(written) : written - 1];
        hall.request(leader, write[0], write[1], write[2]);
    }

    /** To 2, and from 0 to 1 until that leads; the answers stay in the net. */
    private void send(int leader) {
        hall.beat(leader);
        if (leader == 0 && hall.of(1, 0) != QuorumHall.LEADER) Hall.deliverTo(hall, QuorumHall.APPEND, 1);
        if (leader == 1 || hall.of(1, 0) != QuorumHall.LEADER) Hall.deliverTo(hall, QuorumHall.APPEND, 2);
        for (int i = hall.messages() - 1; i >= 0; i--) {
            if (hall.message(i, 0) != QuorumHall.ACK) hall.lose(i);
        }
    }

    /** One of the answers to that leader, in any order. */
    private void hear(int leader) {
        int from = random.nextInt(hall.messages() + 1);
        for (int i = from; i < hall.messages(); i++) {
            if (hall.message(i, 0) == QuorumHall.ACK && hall.message(i, 2) == leader) {
                hall.deliver(i);
                return;
            }
        }
    }

    private void read(int leader) {
        Object answer = Check.thrownBy(() -> hall.read(leader));
        if (answer instanceof Integer) compare();
    }

    private boolean compare() {
        int[][] told = new int[hall.acts()][4];
        for (int i = 0; i < told.length; i++) {
            for (int what = 0; what < 4; what++) told[i][what] = hall.act(i, what);
        }
        boolean due = Model.isInOrder(told);
        Check.due(run + " behind step " + hall.steps() + " isInOrder()", hall.isInOrder(), due);
        return due;
    }
}
