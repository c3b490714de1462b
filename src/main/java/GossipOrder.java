/**
 * Four members tell each other what they know; from who knew what, an order of
 * all events follows without a vote being sent.
 *
 * All that follows from the events is worked out anew when an event is made,
 * so that a question only reads.
 */
public final class GossipOrder {
    public static final int BAD = -1;
    public static final int NONE = -2;
    public static final int FULL = -3;

    private static final int MEMBERS = 4;
    private static final int MOST_EVENTS = 48;
    private static final int ENOUGH_MEMBERS = 3;
    private static final int NO_ROUND = 0;
    private static final int FIRST_ROUND = 1;
    private static final int COIN_STEP = 5;

    private static final int FAME_OPEN = 0;
    private static final int NOT_FAMOUS = 1;
    private static final int FAMOUS = 2;

    // These are known when an event is made and never change. A set of events is
    // a long: event x is in it if bit x is set.
    private final int[] makerOf = new int[MOST_EVENTS];
    private final int[] timeOf = new int[MOST_EVENTS];
    private final boolean[] coinOf = new boolean[MOST_EVENTS];
    private final long[] eventsUnder = new long[MOST_EVENTS];
    private final long[] eventsWellUnder = new long[MOST_EVENTS];
    private final int[] roundOf = new int[MOST_EVENTS];
    private final boolean[] isWitness = new boolean[MOST_EVENTS];
    private final long[] votersFor = new long[MOST_EVENTS];

    // These may change with every new event.
    private final int[] fameOf = new int[MOST_EVENTS];
    private final int[] deciderOf = new int[MOST_EVENTS];
    private final int[] receivedIn = new int[MOST_EVENTS];
    private final int[] finalTimeOf = new int[MOST_EVENTS];
    private final int[] eventAtPlace = new int[MOST_EVENTS];
    private final int[] placeOfEvent = new int[MOST_EVENTS];
    private final int[] latestOf = new int[MEMBERS];
    private int eventCount;
    private int greatestRound;
    private int settledRounds;
    private int orderedCount;

    // Room to work in: what it holds between calls means nothing.
    private final int[] sortedTimes = new int[MEMBERS];
    private long yesVotes;

    public GossipOrder() {
        for (int member = 0; member < MEMBERS; member++) {
            latestOf[member] = NONE;
        }
    }

    public int alone(int member, int time, boolean coin) {
        if (!isMember(member)) {
            return BAD;
        }
        if (eventCount >= MOST_EVENTS) {
            return FULL;
        }
        return makeEvent(member, NONE, time, coin);
    }

    public int gossip(int member, int other, int time, boolean coin) {
        if (!isMember(member) || !isGood(other) || makerOf[other] == member) {
            return BAD;
        }
        if (latestOf[member] == NONE) {
            return NONE;
        }
        if (eventCount >= MOST_EVENTS) {
            return FULL;
        }
        return makeEvent(member, other, time, coin);
    }

    public int events() {
        return eventCount;
    }

    public int latest(int member) {
        return isMember(member) ? latestOf[member] : BAD;
    }

    public int under(int x, int y) {
        if (!isGood(x) || !isGood(y)) {
            return BAD;
        }
        return isUnder(x, y) ? 1 : 0;
    }

    public int wellUnder(int x, int y) {
        if (!isGood(x) || !isGood(y)) {
            return BAD;
        }
        return isWellUnder(x, y) ? 1 : 0;
    }

    public int round(int x) {
        return isGood(x) ? roundOf[x] : BAD;
    }

    public int witness(int x) {
        if (!isGood(x)) {
            return BAD;
        }
        return isWitness[x] ? 1 : 0;
    }

    public int witnesses(int round) {
        int found = 0;
        for (int x = 0; x < eventCount; x++) {
            if (isWitnessOf(x, round)) {
                found++;
            }
        }
        return found;
    }

    public int fame(int x) {
        if (!isGood(x)) {
            return BAD;
        }
        return isWitness[x] ? fameOf[x] : NONE;
    }

    public int decider(int x) {
        if (!isGood(x)) {
            return BAD;
        }
        return isWitness[x] ? deciderOf[x] : NONE;
    }

    public int settled() {
        return settledRounds;
    }

    public int received(int x) {
        return isGood(x) ? receivedIn[x] : BAD;
    }

    public int finalTime(int x) {
        return isGood(x) && isReceived(x) ? finalTimeOf[x] : 0;
    }

    public int ordered() {
        return orderedCount;
    }

    public int orderAt(int k) {
        return k >= 0 && k < orderedCount ? eventAtPlace[k] : NONE;
    }

    public int placeOf(int x) {
        if (!isGood(x)) {
            return BAD;
        }
        return isReceived(x) ? placeOfEvent[x] : NONE;
    }

    public int digest() {
        int sum = 0;
        for (int place = 0; place < orderedCount; place++) {
            sum += (place + 1) * (eventAtPlace[place] + 1);
        }
        return sum;
    }

    private boolean isMember(int member) {
        return member >= 0 && member < MEMBERS;
    }

    private boolean isGood(int x) {
        return x >= 0 && x < eventCount;
    }

    private boolean isReceived(int x) {
        return receivedIn[x] != NONE;
    }

    private boolean isWitnessOf(int x, int round) {
        return isWitness[x] && roundOf[x] == round;
    }

    // Only a witness is ever famous, so that need not be asked.
    private boolean isFamousIn(int x, int round) {
        return fameOf[x] == FAMOUS && roundOf[x] == round;
    }

    private boolean isUnder(int x, int y) {
        return (eventsUnder[y] >>> x & 1L) != 0L;
    }

    private boolean isWellUnder(int x, int y) {
        return (eventsWellUnder[y] >>> x & 1L) != 0L;
    }

    private int countIn(long set) {
        int found = 0;
        for (int x = 0; x < MOST_EVENTS; x++) {
            found += (int) (set >>> x & 1L);
        }
        return found;
    }

    private int makeEvent(int member, int other, int time, boolean coin) {
        int made = eventCount;
        int own = latestOf[member];
        makerOf[made] = member;
        timeOf[made] = time;
        coinOf[made] = coin;
        latestOf[member] = made;
        eventCount = made + 1;
        eventsUnder[made] = 1L << made | knownTo(own) | knownTo(other);
        eventsWellUnder[made] = wellKnownTo(made);
        putInRound(made, own, other);
        decideAllFame();
        countSettledRounds();
        receiveAll();
        putAllInOrder();
        return made;
    }

    private long knownTo(int parent) {
        return parent == NONE ? 0L : eventsUnder[parent];
    }

    private int roundOfParent(int parent) {
        return parent == NONE ? NO_ROUND : roundOf[parent];
    }

    private long wellKnownTo(int y) {
        long set = 0L;
        for (int x = 0; x < eventCount; x++) {
            if (membersBetween(x, y) >= ENOUGH_MEMBERS) {
                set |= 1L << x;
            }
        }
        return set;
    }

    private int membersBetween(int x, int y) {
        long members = 0L;
        for (int z = 0; z < eventCount; z++) {
            if (isUnder(z, y) && isUnder(x, z)) {
                members |= 1L << makerOf[z];
            }
        }
        return countIn(members);
    }

    private void putInRound(int made, int own, int other) {
        int ownRound = roundOfParent(own);
        int otherRound = roundOfParent(other);
        int round = ownRound > otherRound ? ownRound : otherRound;
        long passed = witnessesWellUnder(made, round);
        // A member's rounds never go down, so it has at most one witness in a
        // round: to count the witnesses is to count their members.
        if (round == NO_ROUND || countIn(passed) >= ENOUGH_MEMBERS) {
            round++;
        }
        roundOf[made] = round;
        isWitness[made] = ownRound < round;
        votersFor[made] = witnessesWellUnder(made, round - 1);
        if (round > greatestRound) {
            greatestRound = round;
        }
    }

    private long witnessesWellUnder(int y, int round) {
        long set = 0L;
        // Only events before y: y's own round is not known yet.
        for (int x = 0; x < y; x++) {
            if (isWitnessOf(x, round) && isWellUnder(x, y)) {
                set |= 1L << x;
            }
        }
        return set;
    }

    // Every fame is asked again from the start: a late witness of an early round
    // is asked before the one that decided until now.
    private void decideAllFame() {
        for (int x = 0; x < eventCount; x++) {
            fameOf[x] = FAME_OPEN;
            deciderOf[x] = NONE;
            if (isWitness[x]) {
                decideFame(x);
            }
        }
    }

    private void decideFame(int x) {
        yesVotes = 0L;
        for (int round = roundOf[x] + 1; round <= greatestRound; round++) {
            for (int y = 0; y < eventCount; y++) {
                if (isWitnessOf(y, round)) {
                    takeVote(y, x);
                }
                if (fameOf[x] != FAME_OPEN) {
                    return;
                }
            }
        }
    }

    private void takeVote(int y, int x) {
        int distance = roundOf[y] - roundOf[x];
        boolean vote = isUnder(x, y);
        if (distance > 1) {
            int yes = countIn(votersFor[y] & yesVotes);
            int no = countIn(votersFor[y] & ~yesVotes);
            boolean most = yes >= no;
            boolean enough = (most ? yes : no) >= ENOUGH_MEMBERS;
            boolean coinRound = distance % COIN_STEP == 0;
            vote = coinRound && !enough ? coinOf[y] : most;
            if (enough && !coinRound) {
                fameOf[x] = vote ? FAMOUS : NOT_FAMOUS;
                deciderOf[x] = y;
            }
        }
        if (vote) {
            yesVotes |= 1L << y;
        }
    }

    private void countSettledRounds() {
        settledRounds = 0;
        for (int round = FIRST_ROUND; round < greatestRound; round++) {
            if (!isFameSettled(round)) {
                return;
            }
            settledRounds = round;
        }
    }

    private boolean isFameSettled(int round) {
        boolean anyFamous = false;
        for (int x = 0; x < eventCount; x++) {
            if (isWitnessOf(x, round) && fameOf[x] == FAME_OPEN) {
                return false;
            }
            if (isFamousIn(x, round)) {
                anyFamous = true;
            }
        }
        return anyFamous;
    }

    private void receiveAll() {
        for (int x = 0; x < eventCount; x++) {
            receivedIn[x] = roundThatReceives(x);
            if (isReceived(x)) {
                finalTimeOf[x] = middleTime(x, receivedIn[x]);
            }
        }
    }

    private int roundThatReceives(int x) {
        for (int round = FIRST_ROUND; round <= settledRounds; round++) {
            if (isUnderAllFamous(x, round)) {
                return round;
            }
        }
        return NONE;
    }

    private boolean isUnderAllFamous(int x, int round) {
        for (int w = 0; w < eventCount; w++) {
            if (isFamousIn(w, round) && !isUnder(x, w)) {
                return false;
            }
        }
        return true;
    }

    private int middleTime(int x, int round) {
        int found = 0;
        for (int w = 0; w < eventCount && found < MEMBERS; w++) {
            if (isFamousIn(w, round)) {
                int time = timeOfFirstToKnow(x, w);
                insertTime(time, found);
                found++;
            }
        }
        return sortedTimes[found / 2];
    }

    private int timeOfFirstToKnow(int x, int w) {
        for (int z = 0; z < w; z++) {
            if (makerOf[z] == makerOf[w] && isUnder(z, w) && isUnder(x, z)) {
                return timeOf[z];
            }
        }
        return timeOf[w];
    }

    private void insertTime(int time, int found) {
        int at = found;
        while (at > 0 && sortedTimes[at - 1] > time) {
            sortedTimes[at] = sortedTimes[at - 1];
            at--;
        }
        sortedTimes[at] = time;
    }

    private void putAllInOrder() {
        orderedCount = 0;
        for (int x = 0; x < eventCount; x++) {
            if (isReceived(x)) {
                insertInOrder(x);
                orderedCount++;
            }
        }
        for (int place = 0; place < orderedCount; place++) {
            placeOfEvent[eventAtPlace[place]] = place;
        }
    }

    // Events come here by rising number, so equals keep the order of their numbers.
    private void insertInOrder(int x) {
        int at = orderedCount;
        while (at > 0 && comesBefore(x, eventAtPlace[at - 1])) {
            eventAtPlace[at] = eventAtPlace[at - 1];
            at--;
        }
        eventAtPlace[at] = x;
    }

    private boolean comesBefore(int a, int b) {
        if (receivedIn[a] != receivedIn[b]) {
            return receivedIn[a] < receivedIn[b];
        }
        return finalTimeOf[a] < finalTimeOf[b];
    }
}
