/**
 * A bench on which machines agree: a net worked by hand, leaders with terms and logs, requests that
 * count once, leases by clocks that drift, single decisions by ballots, crashes, and a checker of
 * what was answered.
 *
 * The face tests the arguments and counts the steps; Leaders and Ballots say what machines do with
 * messages, History keeps the acts and checks their order.
 */
public final class QuorumHall {
    public static final int NONE = -1;
    public static final int FOLLOWER = 0, CANDIDATE = 1, LEADER = 2;
    public static final int ASK = 0, VOTE = 1, APPEND = 2, ACK = 3, PREPARE = 4, PROMISED = 5, ACCEPT = 6, ACCEPTED = 7;

    private static final int FEW_MACHINES = 3, MANY_MACHINES = 5;
    private static final int CLIENTS = 4, MOST_SERIAL = 99, MOST_VALUE = 999;
    private static final int MOST_ENTRIES = 30, MOST_SENT_ENTRIES = 3;
    private static final int MOST_MESSAGES = 60, MOST_ACTS = 14;
    private static final int DECISIONS = 4, BALLOT_STEP = 8;

    private final Machine[] hall = new Machine[MANY_MACHINES];
    private final Net net = new Net();
    private final Leaders leaders = new Leaders(hall, net);
    private final Ballots ballots = new Ballots(hall, net);
    private final History history = new History();
    private float trueTime;

    public QuorumHall() {
        for (int i = 0; i < MANY_MACHINES; i++) {
            hall[i] = new Machine(i);
        }
        renew(FEW_MACHINES);
    }

    // ---- the bench

    public int begin(int machines) throws IllegalArgumentException {
        if (machines != FEW_MACHINES && machines != MANY_MACHINES) {
            throw new IllegalArgumentException("there are 3 machines, or 5");
        }
        int before = net.size;
        renew(machines);
        return before;
    }

    public boolean toggle(int machine) throws IndexOutOfBoundsException {
        Machine toggled = needMachine(machine);
        history.goOn();
        if (toggled.up) {
            toggled.crash();
        } else {
            toggled.rise(leaders.span);
        }
        return toggled.up;
    }

    public boolean cut(int one, int other) throws IndexOutOfBoundsException, IllegalArgumentException {
        needMachine(one);
        needMachine(other);
        if (one == other) {
            throw new IllegalArgumentException("a machine is not cut from itself");
        }
        history.goOn();
        return net.switchCut(one, other);
    }

    public float rate(int machine, int rate) throws IndexOutOfBoundsException, IllegalArgumentException {
        Machine clocked = needMachine(machine);
        needRange(rate, 500, 1500);
        history.goOn();
        clocked.rate = (float) rate / 1000f;
        return clocked.clock;
    }

    public void spans(int span, int bound) throws IllegalArgumentException {
        needRange(span, 1, 1000);
        needRange(bound, 0, 90);
        history.goOn();
        leaders.span = (float) span / 10f;
        leaders.bound = (float) bound / 100f;
    }

    public float pass(int time) throws IllegalArgumentException {
        needRange(time, 1, 1000);
        history.goOn();
        float passed = (float) time / 10f;
        trueTime = trueTime + passed;
        for (int i = 0; i < net.size; i++) {
            hall[i].letPass(passed);
        }
        return trueTime;
    }

    // ---- the net

    public int deliver(int message) throws IndexOutOfBoundsException, IllegalStateException {
        Message told = needMessage(message);
        if (!hall[told.to].up || net.isCut(told.from, told.to)) {
            throw new IllegalStateException("the message can't be delivered");
        }
        history.goOn();
        net.takeOut(message);
        net.sent = 0;
        if (told.kind <= ACK) {
            leaders.hear(told);
        } else {
            ballots.hear(told);
        }
        // Only by a delivery does a machine become a LEADER, or the commit of one grow.
        for (int i = 0; i < net.size; i++) {
            history.answerWrites(hall[i]);
        }
        return net.sent;
    }

    public int lose(int message) throws IndexOutOfBoundsException {
        needMessage(message);
        history.goOn();
        net.takeOut(message);
        return net.count;
    }

    public int twice(int message) throws IndexOutOfBoundsException {
        Message doubled = needMessage(message);
        history.goOn();
        net.send(doubled.kind, doubled.from, doubled.to, doubled.term).copyRest(doubled);
        return net.count;
    }

    // ---- leaders and requests

    public int stand(int machine) throws IndexOutOfBoundsException, IllegalStateException {
        Machine standing = needMachine(machine);
        if (!standing.up || standing.role == LEADER || standing.hasPromised()) {
            throw new IllegalStateException("the machine can't stand");
        }
        history.goOn();
        leaders.letStand(standing);
        return standing.term;
    }

    public int beat(int machine) throws IndexOutOfBoundsException, IllegalStateException {
        Machine beating = needMachine(machine);
        if (!beating.up || beating.role != LEADER) {
            throw new IllegalStateException("the machine is no leader that is up");
        }
        history.goOn();
        return leaders.letBeat(beating);
    }

    public int request(int machine, int client, int serial, int value)
            throws IndexOutOfBoundsException, IllegalArgumentException, IllegalStateException {
        Machine asked = needMachine(machine);
        if (client < 0 || client >= CLIENTS) {
            throw new IndexOutOfBoundsException("there is no such client");
        }
        needRange(serial, 1, MOST_SERIAL);
        needRange(value, 0, MOST_VALUE);
        Act known = history.findWrite(client, serial);
        if (known != null && known.value != value) {
            throw new IllegalArgumentException("the act has another value");
        }
        if (!asked.up || asked.role != LEADER || asked.log.isFull() || (known == null && history.isFull())) {
            throw new IllegalStateException("the request can't be taken");
        }
        history.goOn();
        if (known == null) {
            history.addWrite(client, serial, value);
        }
        if (!asked.log.hasSerial(client, serial)) {
            asked.log.put(new Entry(asked.term, client, serial, value));
        }
        return asked.log.numberOf(client, serial);
    }

    public int read(int machine) throws IndexOutOfBoundsException, IllegalStateException {
        Machine asked = needMachine(machine);
        if (!asked.up || !asked.holdsLease() || !asked.agreedInItsTerm() || history.isFull()) {
            throw new IllegalStateException("the machine can't answer a read");
        }
        history.goOn();
        int value = asked.log.valueUpTo(asked.commit);
        history.addRead(value);
        return value;
    }

    // ---- decisions

    public int propose(int machine, int decision, int value)
            throws IndexOutOfBoundsException, IllegalArgumentException, IllegalStateException {
        Machine proposing = needMachine(machine);
        needChoice(proposing, decision);
        needRange(value, 0, MOST_VALUE);
        if (!proposing.up) {
            throw new IllegalStateException("the machine is not up");
        }
        history.goOn();
        return ballots.letPropose(proposing, decision, value);
    }

    // ---- what is asked

    public int steps() {
        return history.steps;
    }

    public int messages() {
        return net.count;
    }

    public int message(int message, int what) throws IndexOutOfBoundsException, IllegalArgumentException {
        Message asked = needMessage(message);
        switch (what) {
            case 0: return asked.kind;
            case 1: return asked.from;
            case 2: return asked.to;
            case 3: return asked.term;
            case 4: return asked.entryCount;
            default: throw new IllegalArgumentException("what is out of range");
        }
    }

    public int of(int machine, int what) throws IndexOutOfBoundsException, IllegalArgumentException {
        Machine asked = needMachine(machine);
        switch (what) {
            case 0: return asked.role;
            case 1: return asked.term;
            case 2: return asked.vote;
            case 3: return asked.log.count;
            case 4: return asked.commit;
            case 5: return asked.log.valueUpTo(asked.commit);
            case 6: return asked.hasPromised() ? asked.promisedTo : NONE;
            case 7: return asked.up ? 1 : 0;
            default: throw new IllegalArgumentException("what is out of range");
        }
    }

    public int entry(int machine, int entry, int what) throws IndexOutOfBoundsException, IllegalArgumentException {
        Entry asked = needMachine(machine).log.at(entry);
        if (asked == null) {
            throw new IndexOutOfBoundsException("there is no such entry");
        }
        switch (what) {
            case 0: return asked.term;
            case 1: return asked.client;
            case 2: return asked.serial;
            case 3: return asked.value;
            default: throw new IllegalArgumentException("what is out of range");
        }
    }

    public float clock(int machine) throws IndexOutOfBoundsException {
        return needMachine(machine).clock;
    }

    public float lease(int machine) throws IndexOutOfBoundsException {
        Lead lead = needMachine(machine).lead;
        return lead.leased ? lead.leasedUntil : -1f;
    }

    public int leases() {
        int held = 0;
        for (int i = 0; i < net.size; i++) {
            if (hall[i].up && hall[i].holdsLease()) {
                held++;
            }
        }
        return held;
    }

    public int decision(int machine, int decision, int what)
            throws IndexOutOfBoundsException, IllegalArgumentException {
        Choice asked = needChoice(needMachine(machine), decision);
        switch (what) {
            case 0: return asked.promised;
            case 1: return asked.acceptedBallot;
            case 2: return asked.acceptedValue;
            case 3: return asked.decided;
            default: throw new IllegalArgumentException("what is out of range");
        }
    }

    public int acts() {
        return history.count;
    }

    public int act(int act, int what) throws IndexOutOfBoundsException, IllegalArgumentException {
        Act asked = history.at(act);
        if (asked == null) {
            throw new IndexOutOfBoundsException("there is no such act");
        }
        switch (what) {
            case 0: return asked.isWrite ? 1 : 0;
            case 1: return asked.value;
            case 2: return asked.began;
            case 3: return asked.answered;
            default: throw new IllegalArgumentException("what is out of range");
        }
    }

    public boolean isInOrder() {
        return history.hasOneOrder();
    }

    public boolean isAgreed() {
        for (int one = 0; one < net.size; one++) {
            for (int other = 0; other < one; other++) {
                if (!hall[one].agreesWith(hall[other])) {
                    return false;
                }
            }
        }
        return true;
    }

    private void renew(int machines) {
        net.renew(machines);
        leaders.renew();
        history.renew();
        trueTime = 0f;
        for (int i = 0; i < MANY_MACHINES; i++) {
            hall[i].renew();
        }
    }

    private Machine needMachine(int machine) {
        if (machine < 0 || machine >= net.size) {
            throw new IndexOutOfBoundsException("there is no such machine");
        }
        return hall[machine];
    }

    private Choice needChoice(Machine machine, int decision) {
        if (decision < 0 || decision >= DECISIONS) {
            throw new IndexOutOfBoundsException("there is no such decision");
        }
        return machine.choices[decision];
    }

    private static void needRange(int argument, int least, int most) {
        if (argument < least || argument > most) {
            throw new IllegalArgumentException("an argument is out of its range");
        }
    }

    private Message needMessage(int place) {
        Message found = net.at(place);
        if (found == null) {
            throw new IndexOutOfBoundsException("there is no such message");
        }
        return found;
    }

    /** An entry of a log. It never changes, so that logs and messages can share it. */
    private static final class Entry {
        final int term, client, serial, value;

        Entry(int term, int client, int serial, int value) {
            this.term = term;
            this.client = client;
            this.serial = serial;
            this.value = value;
        }

        boolean isLike(Entry other) {
            return term == other.term && client == other.client && serial == other.serial && value == other.value;
        }

        /** Whether it is of that client with that serial or a greater one, so that this counts no more behind it. */
        boolean outdoes(int otherClient, int otherSerial) {
            return client == otherClient && serial >= otherSerial;
        }
    }

    /** The entries of a machine, numbered from 1. */
    private static final class Log {
        final Entry[] entries = new Entry[MOST_ENTRIES];
        int count;

        boolean isFull() {
            return count >= MOST_ENTRIES;
        }

        /** The entry of that number, or null. */
        Entry at(int number) {
            return number >= 1 && number <= count ? entries[number - 1] : null;
        }

        /** The term of the entry of that number; 0, which no entry has, if there is none. */
        int termAt(int number) {
            Entry found = at(number);
            return found == null ? 0 : found.term;
        }

        void put(Entry entry) {
            if (count < MOST_ENTRIES) {
                entries[count] = entry;
                count++;
            }
        }

        void cutBehind(int number) {
            if (number >= 0 && number < count) {
                count = number;
            }
        }

        int numberOf(int client, int serial) {
            for (int i = 0; i < count; i++) {
                if (entries[i].client == client && entries[i].serial == serial) {
                    return i + 1;
                }
            }
            return 0;
        }

        boolean hasSerial(int client, int serial) {
            return isOutdone(client, serial, count);
        }

        int valueUpTo(int number) {
            for (int n = Math.min(number, count); n >= 1; n--) {
                Entry last = entries[n - 1];
                if (!isOutdone(last.client, last.serial, n - 1)) {
                    return last.value;
                }
            }
            return 0;
        }

        boolean isLikeUpTo(Log other, int number) {
            int both = Math.min(number, Math.min(count, other.count));
            for (int i = 0; i < both; i++) {
                if (!entries[i].isLike(other.entries[i])) {
                    return false;
                }
            }
            return true;
        }

        private boolean isOutdone(int client, int serial, int ahead) {
            for (int i = 0; i < ahead && i < count; i++) {
                if (entries[i].outdoes(client, serial)) {
                    return true;
                }
            }
            return false;
        }
    }

    /** A message of any kind; what a kind does not need stays as start() puts it. */
    private static final class Message {
        int kind, from, to;
        /** The term, or the ballot. */
        int term;
        /** The entry told: the last one of the log, that ahead of the entries, or the one that an ACK tells. */
        int number;
        int numberTerm;
        int commit;
        float clock;
        boolean yes;
        final Entry[] entries = new Entry[MOST_SENT_ENTRIES];
        int entryCount;
        int decision;
        int acceptedBallot;
        int value;

        void start(int kind, int from, int to, int term) {
            this.kind = kind;
            this.from = from;
            this.to = to;
            this.term = term;
            number = 0;
            numberTerm = 0;
            commit = 0;
            clock = 0f;
            yes = false;
            entryCount = 0;
            decision = 0;
            acceptedBallot = NONE;
            value = NONE;
        }

        void copyRest(Message other) {
            number = other.number;
            numberTerm = other.numberTerm;
            commit = other.commit;
            clock = other.clock;
            yes = other.yes;
            entryCount = other.entryCount;
            for (int i = 0; i < MOST_SENT_ENTRIES; i++) {
                entries[i] = other.entries[i];
            }
            decision = other.decision;
            acceptedBallot = other.acceptedBallot;
            value = other.value;
        }

        void addEntriesBehind(Log log, int last) {
            for (int i = 0; i < MOST_SENT_ENTRIES; i++) {
                Entry next = log.at(last + 1 + i);
                if (next != null) {
                    entries[entryCount] = next;
                    entryCount++;
                }
            }
        }
    }

    /** The row of messages and the cuts. All messages are made once and used again, to make few objects. */
    private static final class Net {
        int size;
        int count;
        /** How many were sent, the lost ones too; the one who asks sets it to 0 first. */
        int sent;
        private final Message[] row = new Message[MOST_MESSAGES];
        private final boolean[] cuts = new boolean[MANY_MACHINES * MANY_MACHINES];
        /** The one taken out last: it is still read while answers to it take places in the row. */
        private Message taken = new Message();
        /** What is sent when the row is full is written here, and nobody reads it. */
        private final Message lost = new Message();

        Net() {
            for (int i = 0; i < MOST_MESSAGES; i++) {
                row[i] = new Message();
            }
        }

        void renew(int machines) {
            size = machines;
            count = 0;
            sent = 0;
            for (int i = 0; i < cuts.length; i++) {
                cuts[i] = false;
            }
        }

        int most() {
            return size / 2 + 1;
        }

        boolean areMost(int machineBits) {
            return Integer.bitCount(machineBits) >= most();
        }

        Message at(int place) {
            return place >= 0 && place < count ? row[place] : null;
        }

        /** Puts a message at the end, for the caller to write the rest into. */
        Message send(int kind, int from, int to, int term) {
            Message next = lost;
            if (count < MOST_MESSAGES) {
                next = row[count];
                count++;
            }
            sent++;
            next.start(kind, from, to, term);
            return next;
        }

        /** Takes a message out of the row; it can be read until the next one is taken out. */
        void takeOut(int place) {
            if (place < 0 || place >= count) {
                return;
            }
            Message found = row[place];
            for (int i = place; i < count - 1; i++) {
                row[i] = row[i + 1];
            }
            count--;
            row[count] = taken;
            taken = found;
        }

        boolean isCut(int one, int other) {
            return cuts[one * MANY_MACHINES + other];
        }

        boolean switchCut(int one, int other) {
            boolean now = !isCut(one, other);
            cuts[one * MANY_MACHINES + other] = now;
            cuts[other * MANY_MACHINES + one] = now;
            return now;
        }
    }

    private static final class Machine {
        final int number;
        final Log log = new Log();
        final Lead lead = new Lead();
        final Choice[] choices = new Choice[DECISIONS];
        boolean up;
        float clock, rate;
        int role, term, vote, commit;
        /** Who gave this machine the vote of its term, a bit for each. */
        int voters;
        /** To whom it promised last, itself for nobody, NONE for never; it counts until promisedUntil. */
        int promisedTo;
        float promisedUntil;

        Machine(int number) {
            this.number = number;
            for (int i = 0; i < DECISIONS; i++) {
                choices[i] = new Choice();
            }
        }

        void renew() {
            up = true;
            clock = 0f;
            rate = 1f;
            term = 0;
            vote = NONE;
            commit = 0;
            voters = 0;
            promisedTo = NONE;
            promisedUntil = 0f;
            log.cutBehind(0);
            follow();
            for (int i = 0; i < DECISIONS; i++) {
                choices[i].renew();
            }
        }

        void crash() {
            up = false;
            commit = 0;
            follow();
            for (int i = 0; i < DECISIONS; i++) {
                choices[i].dropProposal();
            }
        }

        void rise(float span) {
            up = true;
            promise(number, span);
        }

        void letPass(float passed) {
            clock = clock + passed * rate;
        }

        void follow() {
            role = FOLLOWER;
            lead.leased = false;
        }

        void learnTerm(int told) {
            if (told > term) {
                term = told;
                vote = NONE;
                follow();
            }
        }

        void promise(int to, float span) {
            promisedTo = to;
            promisedUntil = clock + span;
        }

        boolean hasPromised() {
            return promisedTo != NONE && clock < promisedUntil;
        }

        boolean holdsLease() {
            return lead.leased && clock < lead.leasedUntil;
        }

        boolean agreedInItsTerm() {
            return commit > 0 && log.termAt(commit) == term;
        }

        /** Whether the vote can go to the one that asks, the term being the same. */
        boolean canVoteFor(Message ask) {
            if (vote != NONE && vote != ask.from) {
                return false;
            }
            if (hasPromised() && promisedTo != ask.from) {
                return false;
            }
            int lastTerm = log.termAt(log.count);
            return ask.numberTerm > lastTerm || (ask.numberTerm == lastTerm && ask.number >= log.count);
        }

        boolean agreesWith(Machine other) {
            for (int i = 0; i < DECISIONS; i++) {
                int mine = choices[i].decided;
                int its = other.choices[i].decided;
                if (mine != NONE && its != NONE && mine != its) {
                    return false;
                }
            }
            return log.isLikeUpTo(other.log, Math.min(commit, other.commit));
        }
    }

    /** What a LEADER knows of the others, by their numbers, and its lease. */
    private static final class Lead {
        /** Up to which entry each log is supposed to be as its own. */
        final int[] supposed = new int[MANY_MACHINES];
        /** Up to which entry each log is known to be the same. */
        final int[] same = new int[MANY_MACHINES];
        /** Who answered yes, a bit for each, and the latest clock in these answers. */
        int answerers;
        final float[] clocks = new float[MANY_MACHINES];
        boolean leased;
        float leasedUntil;

        void start(int entries) {
            for (int i = 0; i < MANY_MACHINES; i++) {
                supposed[i] = entries;
                same[i] = 0;
                clocks[i] = 0f;
            }
            answerers = 0;
            leased = false;
        }

        void learnSame(int other, int number) {
            if (number > same[other]) {
                same[other] = number;
                supposed[other] = number;
            }
        }

        void learnClock(int other, float clock) {
            if (clock > clocks[other]) {
                clocks[other] = clock;
            }
            answerers |= 1 << other;
        }

        /** How many others know that many entries to be the same; the own place, always 0, is none of them. */
        int knowing(int entries) {
            int knowing = 0;
            for (int i = 0; i < MANY_MACHINES; i++) {
                if (same[i] >= entries) {
                    knowing++;
                }
            }
            return knowing;
        }

        /** The greatest clock such that so many others answered with that or a later one; 0 if there is none. */
        float clockOf(int others) {
            float greatest = 0f;
            for (int i = 0; i < MANY_MACHINES; i++) {
                if (hasAnswered(i) && clocks[i] > greatest && answeredSince(clocks[i]) >= others) {
                    greatest = clocks[i];
                }
            }
            return greatest;
        }

        private int answeredSince(float clock) {
            int since = 0;
            for (int i = 0; i < MANY_MACHINES; i++) {
                if (hasAnswered(i) && clocks[i] >= clock) {
                    since++;
                }
            }
            return since;
        }

        private boolean hasAnswered(int machine) {
            return (answerers >> machine & 1) == 1;
        }
    }

    /** Terms, logs and leases: what machines do when they stand, beat, and get ASK, VOTE, APPEND or ACK. */
    private static final class Leaders {
        private final Machine[] hall;
        private final Net net;
        float span, bound;

        Leaders(Machine[] hall, Net net) {
            this.hall = hall;
            this.net = net;
        }

        void renew() {
            span = 10f;
            bound = 0f;
        }

        void letStand(Machine me) {
            me.term++;
            me.vote = me.number;
            me.role = CANDIDATE;
            me.voters = 1 << me.number;
            for (int other = 0; other < net.size; other++) {
                if (other != me.number) {
                    Message ask = net.send(ASK, me.number, other, me.term);
                    ask.number = me.log.count;
                    ask.numberTerm = me.log.termAt(me.log.count);
                }
            }
        }

        /** Returns how many entries are sent. */
        int letBeat(Machine me) {
            int entries = 0;
            for (int other = 0; other < net.size; other++) {
                if (other != me.number) {
                    Message append = net.send(APPEND, me.number, other, me.term);
                    append.number = me.lead.supposed[other];
                    append.numberTerm = me.log.termAt(append.number);
                    append.addEntriesBehind(me.log, append.number);
                    append.commit = me.commit;
                    append.clock = me.clock;
                    entries += append.entryCount;
                }
            }
            return entries;
        }

        void hear(Message told) {
            Machine me = hall[told.to];
            me.learnTerm(told.term);
            switch (told.kind) {
                case ASK: hearAsk(me, told); break;
                case VOTE: hearVote(me, told); break;
                case APPEND: hearAppend(me, told); break;
                case ACK: hearAck(me, told); break;
                default: break;
            }
        }

        private void hearAsk(Machine me, Message ask) {
            boolean given = ask.term == me.term && me.canVoteFor(ask);
            if (given) {
                me.vote = ask.from;
            }
            net.send(VOTE, me.number, ask.from, me.term).yes = given;
        }

        private void hearVote(Machine me, Message vote) {
            if (me.role != CANDIDATE || vote.term != me.term || !vote.yes) {
                return;
            }
            me.voters |= 1 << vote.from;
            if (net.areMost(me.voters)) {
                me.role = LEADER;
                me.lead.start(me.log.count);
            }
        }

        private void hearAppend(Machine me, Message append) {
            if (append.term < me.term) {
                sendAck(me, append, false, 0);
                return;
            }
            me.follow();
            if (append.number != 0 && me.log.termAt(append.number) != append.numberTerm) {
                sendAck(me, append, false, Math.min(append.number - 1, me.log.count));
                return;
            }
            putEntries(me.log, append);
            int last = append.number + append.entryCount;
            me.commit = Math.max(me.commit, Math.min(append.commit, last));
            me.promise(append.from, span);
            sendAck(me, append, true, last);
        }

        private void putEntries(Log log, Message append) {
            for (int i = 0; i < append.entryCount; i++) {
                Entry came = append.entries[i];
                int number = append.number + 1 + i;
                if (log.termAt(number) != came.term) {
                    log.cutBehind(number - 1);
                    log.put(came);
                }
            }
        }

        private void sendAck(Machine me, Message append, boolean yes, int number) {
            Message ack = net.send(ACK, me.number, append.from, me.term);
            ack.yes = yes;
            ack.number = number;
            ack.clock = append.clock;
        }

        private void hearAck(Machine me, Message ack) {
            if (me.role != LEADER || ack.term != me.term) {
                return;
            }
            if (!ack.yes) {
                me.lead.supposed[ack.from] = ack.number;
                return;
            }
            me.lead.learnSame(ack.from, ack.number);
            commitWhatMostKnow(me);
            me.lead.learnClock(ack.from, ack.clock);
            renewLease(me);
        }

        private void commitWhatMostKnow(Machine me) {
            for (int n = me.log.count; n > me.commit; n--) {
                if (me.lead.knowing(n) + 1 >= net.most()) {
                    if (me.log.termAt(n) == me.term) {
                        me.commit = n;
                    }
                    return;
                }
            }
        }

        private void renewLease(Machine me) {
            if (net.areMost(me.lead.answerers | 1 << me.number)) {
                me.lead.leased = true;
                me.lead.leasedUntil = me.lead.clockOf(net.most() - 1) + span * (1f - bound);
            }
        }
    }

    /** What a machine keeps of a decision, and its proposal for it, which a crash drops. */
    private static final class Choice {
        int promised, acceptedBallot, acceptedValue, decided;
        /** The ballot of the proposal, NONE without one. */
        int ballot;
        int value;
        boolean goneOn;
        /** Who answered, a bit for each: PROMISED at first, ACCEPTED when it has gone on. */
        int answerers;
        /** The greatest ballot that was accepted, as the answers tell, with its value. */
        int toldBallot, toldValue;

        void renew() {
            promised = NONE;
            acceptedBallot = NONE;
            acceptedValue = NONE;
            decided = NONE;
            dropProposal();
        }

        void dropProposal() {
            ballot = NONE;
        }

        /** The least ballot of that machine above that promised. */
        int nextBallot(int machine) {
            int round = promised < machine ? 0 : (promised - machine) / BALLOT_STEP + 1;
            return BALLOT_STEP * round + machine;
        }

        void startProposal(int ballotNow, int valueNow, int machine) {
            promised = ballotNow;
            ballot = ballotNow;
            value = valueNow;
            goneOn = false;
            answerers = 1 << machine;
            toldBallot = acceptedBallot;
            toldValue = acceptedValue;
        }

        void learnTold(int ballotTold, int valueTold) {
            if (ballotTold > toldBallot) {
                toldBallot = ballotTold;
                toldValue = valueTold;
            }
        }

        void takeOn(int ballotNow, int valueNow) {
            promised = ballotNow;
            acceptedBallot = ballotNow;
            acceptedValue = valueNow;
        }
    }

    /** Single decisions: what machines do when they propose, and get PREPARE to ACCEPTED. */
    private static final class Ballots {
        private final Machine[] hall;
        private final Net net;

        Ballots(Machine[] hall, Net net) {
            this.hall = hall;
            this.net = net;
        }

        /** Returns the ballot. */
        int letPropose(Machine me, int decision, int value) {
            Choice mine = me.choices[decision];
            mine.startProposal(mine.nextBallot(me.number), value, me.number);
            for (int other = 0; other < net.size; other++) {
                if (other != me.number) {
                    net.send(PREPARE, me.number, other, mine.ballot).decision = decision;
                }
            }
            return mine.ballot;
        }

        void hear(Message told) {
            Machine me = hall[told.to];
            Choice mine = me.choices[told.decision];
            switch (told.kind) {
                case PREPARE: hearPrepare(mine, told); break;
                case PROMISED: hearPromised(me, mine, told); break;
                case ACCEPT: hearAccept(mine, told); break;
                case ACCEPTED: hearAccepted(mine, told); break;
                default: break;
            }
        }

        private void hearPrepare(Choice mine, Message prepare) {
            if (prepare.term <= mine.promised) {
                return;
            }
            mine.promised = prepare.term;
            Message answer = net.send(PROMISED, prepare.to, prepare.from, prepare.term);
            answer.decision = prepare.decision;
            answer.acceptedBallot = mine.acceptedBallot;
            answer.value = mine.acceptedValue;
        }

        private void hearPromised(Machine me, Choice mine, Message told) {
            if (mine.ballot != told.term || mine.promised != told.term || mine.goneOn) {
                return;
            }
            mine.answerers |= 1 << told.from;
            mine.learnTold(told.acceptedBallot, told.value);
            if (net.areMost(mine.answerers)) {
                sendAccepts(me, mine, told.decision);
            }
        }

        private void sendAccepts(Machine me, Choice mine, int decision) {
            mine.goneOn = true;
            mine.answerers = 1 << me.number;
            if (mine.toldBallot != NONE) {
                mine.value = mine.toldValue;
            }
            mine.takeOn(mine.ballot, mine.value);
            for (int other = 0; other < net.size; other++) {
                if (other != me.number) {
                    Message accept = net.send(ACCEPT, me.number, other, mine.ballot);
                    accept.decision = decision;
                    accept.value = mine.value;
                }
            }
        }

        private void hearAccept(Choice mine, Message accept) {
            if (accept.term < mine.promised) {
                return;
            }
            mine.takeOn(accept.term, accept.value);
            net.send(ACCEPTED, accept.to, accept.from, accept.term).decision = accept.decision;
        }

        private void hearAccepted(Choice mine, Message told) {
            if (mine.ballot != told.term || !mine.goneOn) {
                return;
            }
            mine.answerers |= 1 << told.from;
            if (net.areMost(mine.answerers)) {
                mine.decided = mine.value;
            }
        }
    }

    /** A write or a read of a client. */
    private static final class Act {
        boolean isWrite;
        int client, serial, value, began, answered;

        void start(boolean write, int itsValue, int step) {
            isWrite = write;
            value = itsValue;
            began = step;
            answered = NONE;
            client = NONE;
            serial = NONE;
        }

        boolean isAnsweredAhead(int step) {
            return answered != NONE && answered < step;
        }

        /** Whether it is a write that can come between two reads, which have one step each. */
        boolean fitsBetween(int readStep, int nextReadStep) {
            return isWrite && began < nextReadStep && !isAnsweredAhead(readStep);
        }
    }

    /** The acts, in the order in which they began, and the steps. */
    private static final class History {
        private final Act[] all = new Act[MOST_ACTS];
        private final Act[] reads = new Act[MOST_ACTS];
        int count, steps;
        private int readCount;

        History() {
            for (int i = 0; i < MOST_ACTS; i++) {
                all[i] = new Act();
            }
        }

        void renew() {
            count = 0;
            readCount = 0;
            steps = 0;
        }

        void goOn() {
            steps++;
        }

        boolean isFull() {
            return count >= MOST_ACTS;
        }

        Act at(int place) {
            return place >= 0 && place < count ? all[place] : null;
        }

        /** The write of that client and serial, or null. */
        Act findWrite(int client, int serial) {
            for (int i = 0; i < count; i++) {
                if (all[i].isWrite && all[i].client == client && all[i].serial == serial) {
                    return all[i];
                }
            }
            return null;
        }

        void addWrite(int client, int serial, int value) {
            if (count < MOST_ACTS) {
                Act added = all[count];
                count++;
                added.start(true, value, steps);
                added.client = client;
                added.serial = serial;
            }
        }

        void addRead(int value) {
            if (count < MOST_ACTS && readCount < MOST_ACTS) {
                Act added = all[count];
                count++;
                added.start(false, value, steps);
                added.answered = steps;
                reads[readCount] = added;
                readCount++;
            }
        }

        void answerWrites(Machine machine) {
            if (machine.role != LEADER) {
                return;
            }
            for (int i = 0; i < count; i++) {
                if (all[i].isWrite && all[i].answered == NONE) {
                    int number = machine.log.numberOf(all[i].client, all[i].serial);
                    if (number >= 1 && number <= machine.commit) {
                        all[i].answered = steps;
                    }
                }
            }
        }

        /*
         * A read begins and is answered in one step, so the reads have but one order, and a write comes
         * between two of them, ahead of the first or behind the last. Between two reads only the last
         * write counts: it feeds the next read. All that is chosen is who feeds which read, if any;
         * then each other write that must come ahead of a read needs a place where it fits and
         * a feeding write may come behind it. Such writes go by their beginnings, which suits them all.
         */
        boolean hasOneOrder() {
            return canFeed(this, 0, 0, 0, 0);
        }

        /**
         * Whether the reads from number next on can be fed, when the value ahead is told, the writes of
         * the bits feeding have fed a read, and those of placed have or could come ahead of one that did.
         * Where the value ahead suits the read, a write of the same value is tried too: others that are
         * due later may have no place but ahead of it.
         */
        private static boolean canFeed(History history, int next, int value, int feeding, int placed) {
            if (next >= history.readCount) {
                return true;
            }
            Act read = history.reads[next];
            int ahead = next == 0 ? 0 : history.reads[next - 1].began;
            int due = history.writesDueAhead(read.began);
            if (value == read.value && (due & ~placed) == 0 && canFeed(history, next + 1, value, feeding, placed)) {
                return true;
            }
            for (int i = 0; i < history.count; i++) {
                Act write = history.all[i];
                boolean feeds = write.value == read.value && write.fitsBetween(ahead, read.began);
                if (feeds && (feeding >> i & 1) == 0) {
                    int nowPlaced = placed | history.writesAheadOf(write, ahead, read.began);
                    if ((due & ~nowPlaced) == 0
                            && canFeed(history, next + 1, read.value, feeding | 1 << i, nowPlaced)) {
                        return true;
                    }
                }
            }
            return false;
        }

        /** The writes that were answered ahead of a step, a bit for each. */
        private int writesDueAhead(int step) {
            int due = 0;
            for (int i = 0; i < count; i++) {
                if (all[i].isWrite && all[i].isAnsweredAhead(step)) {
                    due |= 1 << i;
                }
            }
            return due;
        }

        /** The writes that can come between the same two reads as the last one there, itself with these. */
        private int writesAheadOf(Act last, int readStep, int nextReadStep) {
            int fitting = 0;
            for (int i = 0; i < count; i++) {
                if (all[i].fitsBetween(readStep, nextReadStep) && !last.isAnsweredAhead(all[i].began)) {
                    fitting |= 1 << i;
                }
            }
            return fitting;
        }
    }
}
