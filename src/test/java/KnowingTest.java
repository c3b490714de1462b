import java.util.Arrays;

/** Promises 6 to 10: under, wellUnder, round, witness, witnesses. */
final class KnowingTest {
    private static final int BAD = GossipOrder.BAD;

    private KnowingTest() {
    }

    public static void main(String[] args) {
        underInRing();
        anEventIsUnderItself();
        underOfNoEventIsBad();

        wellUnderInRing();
        wellUnderCountsMembersNotEvents();
        noEventIsWellUnderItself();
        wellUnderOfNoEventIsBad();

        roundsInRing();
        roundsInRingOfThree();
        firstEventsAreOfRoundOne();
        twoWitnessesMakeNoRound();
        fourWitnessesMakeARound();
        twoMembersStayInRoundOne();
        anOldOtherParentKeepsTheRound();
        lateMemberSkipsRounds();
        roundOfNoEventIsBad();
        witnessOfNoEventIsBad();

        witnessesInRing();
        witnessesOfARoundOfNoEventAreNone();
        Check.end();
    }

    private static void underInRing() {
        Subject order = new Subject(48, () -> Runs.ring(48, 0));
        int[][] early = {{0}, {1}, {2}, {3}, {0, 3, 4}, {0, 1, 3, 4, 5}};
        for (int y = 0; y < 48; y++) {
            for (int x = 0; x < 48; x++) {
                boolean due = y < early.length ? Arrays.binarySearch(early[y], x) >= 0 : x <= y;
                Check.due("ring: under(" + x + ", " + y + ")", order.ask().under(x, y), due ? 1 : 0);
            }
        }
    }

    private static void anEventIsUnderItself() {
        GossipOrder order = new GossipOrder();
        for (int n = 0; n < 48; n++) {
            Runs.stepRing(order, 4, n, 0);
            Check.due("itself: under(" + n + ", " + n + ")", order.under(n, n), 1);
        }
    }

    private interface Pair {
        int ask(GossipOrder order, int x, int y);
    }

    private static void pairWithNoEventIsBad(String name, Pair pair) {
        Edges.askOfNoEvent(name + ": y not good", (order, x) -> pair.ask(order, 0, x), BAD);
        Edges.askOfNoEvent(name + ": x not good", (order, x) -> pair.ask(order, x, 0), BAD);
        Edges.askOfNoEvent(name + ": both not good", (order, x) -> pair.ask(order, x, x), BAD);
        GossipOrder order = Runs.ring(16, 0);
        Check.due(name + ": first and last", pair.ask(order, 0, 15), 1);
        Check.due(name + ": last and first", pair.ask(order, 15, 0), 0);
    }

    private static void underOfNoEventIsBad() {
        pairWithNoEventIsBad("under", GossipOrder::under);
    }

    private static void wellUnderInRing() {
        Subject order = new Subject(48, () -> Runs.ring(48, 0));
        for (int x = 0; x < 48; x++) {
            int first = x < 3 ? x + 6 : x + 2;
            for (int y = 0; y < 48; y++) {
                Check.due("ring: wellUnder(" + x + ", " + y + ")", order.ask().wellUnder(x, y), y >= first ? 1 : 0);
            }
        }
    }

    private static void wellUnderCountsMembersNotEvents() {
        GossipOrder order = new GossipOrder();
        order.alone(0, 0, false);
        order.alone(0, 0, false);
        order.alone(0, 0, false);
        Check.due("one member: wellUnder", order.wellUnder(0, 2), 0);
        order.alone(1, 0, false);
        order.gossip(1, 2, 0, false);
        order.alone(1, 0, false);
        Check.due("two members: wellUnder", order.wellUnder(0, 5), 0);
        order.alone(2, 0, false);
        order.gossip(2, 2, 0, false);
        Check.due("the third has not heard of the second: wellUnder", order.wellUnder(0, 7), 0);
        order.gossip(2, 4, 0, false);
        Check.due("three members: wellUnder", order.wellUnder(0, 8), 1);
        Check.due("three members, last of the first: wellUnder", order.wellUnder(2, 8), 1);
        Check.due("three members, but two above: wellUnder", order.wellUnder(4, 8), 0);
    }

    private static void noEventIsWellUnderItself() {
        GossipOrder order = Runs.ring(48, 0);
        for (int x = 0; x < 48; x++) {
            Check.due("itself: wellUnder(" + x + ", " + x + ")", order.wellUnder(x, x), 0);
        }
    }

    private static void wellUnderOfNoEventIsBad() {
        pairWithNoEventIsBad("wellUnder", GossipOrder::wellUnder);
    }

    private static void roundsInRing() {
        GossipOrder order = Runs.ring(48, 0);
        for (int x = 0; x < 48; x++) {
            Check.due("ring: round(" + x + ")", order.round(x), x < 7 ? 1 : (x - 7) / 4 + 2);
            Check.due("ring: witness(" + x + ")", order.witness(x), x >= 4 && x <= 6 ? 0 : 1);
        }
    }

    private static void roundsInRingOfThree() {
        GossipOrder order = Runs.ringOfThree(48, 0);
        for (int x = 0; x < 48; x++) {
            boolean witness = x < 3 || x > 5 && (x - 6) % 4 != 3;
            Check.due("three: round(" + x + ")", order.round(x), x < 6 ? 1 : (x - 6) / 4 + 2);
            Check.due("three: witness(" + x + ")", order.witness(x), witness ? 1 : 0);
        }
        Check.due("three: witnesses(1)", order.witnesses(1), 3);
        Check.due("three: witnesses(2)", order.witnesses(2), 3);
    }

    private static void firstEventsAreOfRoundOne() {
        GossipOrder order = Runs.ringOfThree(40, 0);
        order.alone(3, 0, false);
        for (int x : new int[] {0, 1, 2, 40}) {
            Check.due("first event: round(" + x + ")", order.round(x), 1);
            Check.due("first event: witness(" + x + ")", order.witness(x), 1);
        }
    }

    /** Of the three first events, one is well under event 4, two are well under 5, all are well under 6. */
    private static void twoWitnessesMakeNoRound() {
        GossipOrder order = Runs.ringOfThree(6, 0);
        int[][] wellUnder = {{4, 0, 0}, {4, 1, 0}, {4, 2, 1}, {5, 0, 1}, {5, 1, 0}, {5, 2, 1}};
        for (int[] due : wellUnder) {
            Check.due("two: wellUnder(" + due[1] + ", " + due[0] + ")", order.wellUnder(due[1], due[0]), due[2]);
        }
        Check.due("one well under it: round(4)", order.round(4), 1);
        Check.due("two well under it: round(5)", order.round(5), 1);
        Runs.stepRing(order, 3, 6, 0);
        Check.due("the third too: wellUnder(1, 6)", order.wellUnder(1, 6), 1);
        Check.due("three well under it: round(6)", order.round(6), 2);
    }

    private static void fourWitnessesMakeARound() {
        GossipOrder order = Runs.play(Runs.FOUR_AT_ONCE, 9, false);
        for (int x = 0; x < 4; x++) {
            Check.due("four: wellUnder(" + x + ", 7)", order.wellUnder(x, 7), x == 3 ? 1 : 0);
            Check.due("four: wellUnder(" + x + ", 8)", order.wellUnder(x, 8), 1);
        }
        Check.due("four: round(7)", order.round(7), 1);
        Check.due("four: round(8)", order.round(8), 2);
        Check.due("four: witness(7)", order.witness(7), 0);
        Check.due("four: witness(8)", order.witness(8), 1);
    }

    private static void twoMembersStayInRoundOne() {
        GossipOrder order = new GossipOrder();
        order.alone(0, 0, false);
        order.alone(1, 0, false);
        for (int n = 2; n < 48; n++) {
            order.gossip(n % 2, n - 1, 0, false);
            Check.due("two: round(" + n + ")", order.round(n), 1);
            Check.due("two: witness(" + n + ")", order.witness(n), 0);
        }
        Check.due("two: witnesses(1)", order.witnesses(1), 2);
        Check.due("two: settled", order.settled(), 0);
    }

    private static void anOldOtherParentKeepsTheRound() {
        GossipOrder order = Runs.ring(16, 0);
        Check.due("old: gossip", order.gossip(3, 0, 0, false), 16);
        Check.due("old: round of the own parent", order.round(15), 4);
        Check.due("old: round of the other parent", order.round(0), 1);
        Check.due("old: round", order.round(16), 4);
        Check.due("old: witness", order.witness(16), 0);
    }

    private static void lateMemberSkipsRounds() {
        GossipOrder order = Runs.ringOfThree(19, 0);
        Check.due("late: first event", order.alone(3, 0, false), 19);
        Check.due("late: its round is 1", order.round(19), 1);
        Check.due("late: it is a witness", order.witness(19), 1);
        Check.due("late: witnesses(1)", order.witnesses(1), 4);
        Check.due("late: alone again", order.alone(3, 0, false), 20);
        Check.due("late: no witness", order.witness(20), 0);
        order.gossip(3, 15, 0, false);
        Check.due("late: round 4 at once", order.round(21), 4);
        Check.due("late: a witness of it", order.witness(21), 1);
        Check.due("late: witnesses(4)", order.witnesses(4), 4);
        Check.due("late: none in round 2", order.witnesses(2), 3);
        Check.due("late: none in round 3", order.witnesses(3), 3);
        order.gossip(3, 16, 0, false);
        Check.due("late: 14 and 15 are well under it, 16 is not", order.round(22), 4);
        order.gossip(3, 17, 0, false);
        Check.due("late: 16 too: round 5", order.round(23), 5);
    }

    private static void roundOfNoEventIsBad() {
        Edges.askOfNoEvent("round", GossipOrder::round, BAD);
    }

    private static void witnessOfNoEventIsBad() {
        Edges.askOfNoEvent("witness", GossipOrder::witness, BAD);
    }

    private static void witnessesInRing() {
        GossipOrder order = Runs.ring(48, 0);
        for (int round = 1; round <= 11; round++) {
            Check.due("ring: witnesses(" + round + ")", order.witnesses(round), 4);
        }
        Check.due("ring: witnesses of the last round", order.witnesses(12), 1);
    }

    private static void witnessesOfARoundOfNoEventAreNone() {
        for (int count : new int[] {0, 1, 7, 8, 48}) {
            GossipOrder order = Runs.ring(count, 0);
            int greatest = count == 0 ? 0 : order.round(count - 1);
            for (int round : new int[] {0, -1, -2, greatest + 1, greatest + 2, 48, 64, 65, Edges.LEAST, Edges.MOST}) {
                Check.due(count + " events: witnesses(" + round + ")", order.witnesses(round), 0);
            }
        }
    }
}
