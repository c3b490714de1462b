import java.util.Arrays;

/** Promises 6 to 10: under, wellUnder, round, witness, witnesses. */
final class KnowingTest {
    private static final int BAD = GossipOrder.BAD;

    private KnowingTest() {
    }

    public static void main(String[] args) {
        underInRing();
        wellUnderInRing();
        wellUnderCountsMembersNotEvents();
        roundsInRing();
        roundsInRingOfThree();
        twoMembersStayInRoundOne();
        lateMemberSkipsRounds();
        wrongNumbersAreBad();
        Check.end();
    }

    private static void underInRing() {
        GossipOrder order = Runs.ring(48, 0);
        int[][] early = {{0}, {1}, {2}, {3}, {0, 3, 4}, {0, 1, 3, 4, 5}};
        for (int y = 0; y < 48; y++) {
            for (int x = 0; x < 48; x++) {
                boolean due = y < early.length ? Arrays.binarySearch(early[y], x) >= 0 : x <= y;
                Check.due("ring: under(" + x + ", " + y + ")", order.under(x, y), due ? 1 : 0);
            }
        }
    }

    private static void wellUnderInRing() {
        GossipOrder order = Runs.ring(48, 0);
        for (int x = 0; x < 48; x++) {
            int first = x < 3 ? x + 6 : x + 2;
            for (int y = 0; y < 48; y++) {
                Check.due("ring: wellUnder(" + x + ", " + y + ")", order.wellUnder(x, y), y >= first ? 1 : 0);
            }
        }
    }

    private static void wellUnderCountsMembersNotEvents() {
        GossipOrder order = new GossipOrder();
        order.alone(0, 0, false);
        order.alone(0, 0, false);
        order.alone(0, 0, false);
        Check.due("one member: wellUnder", order.wellUnder(0, 2), 0);
        order.alone(1, 0, false);
        order.gossip(1, 2, 0, false);
        order.alone(1, 0, false);
        Check.due("two members: wellUnder", order.wellUnder(0, 5), 0);
        order.alone(2, 0, false);
        order.gossip(2, 2, 0, false);
        Check.due("the third has not heard of the second: wellUnder", order.wellUnder(0, 7), 0);
        order.gossip(2, 4, 0, false);
        Check.due("three members: wellUnder", order.wellUnder(0, 8), 1);
        Check.due("three members, last of the first: wellUnder", order.wellUnder(2, 8), 1);
        Check.due("three members, but two above: wellUnder", order.wellUnder(4, 8), 0);
    }

    private static void roundsInRing() {
        GossipOrder order = Runs.ring(48, 0);
        for (int x = 0; x < 48; x++) {
            Check.due("ring: round(" + x + ")", order.round(x), x < 7 ? 1 : (x - 7) / 4 + 2);
            Check.due("ring: witness(" + x + ")", order.witness(x), x >= 4 && x <= 6 ? 0 : 1);
        }
        for (int round = 1; round <= 11; round++) {
            Check.due("ring: witnesses(" + round + ")", order.witnesses(round), 4);
        }
        Check.due("ring: witnesses of the last round", order.witnesses(12), 1);
        Check.due("ring: witnesses(0)", order.witnesses(0), 0);
        Check.due("ring: witnesses(13)", order.witnesses(13), 0);
        Check.due("ring: witnesses(-1)", order.witnesses(-1), 0);
        Check.due("ring: witnesses(least)", order.witnesses(Integer.MIN_VALUE), 0);
        Check.due("ring: witnesses(greatest)", order.witnesses(Integer.MAX_VALUE), 0);
    }

    private static void roundsInRingOfThree() {
        GossipOrder order = Runs.ringOfThree(48, 0);
        for (int x = 0; x < 48; x++) {
            boolean witness = x < 3 || x > 5 && (x - 6) % 4 != 3;
            Check.due("three: round(" + x + ")", order.round(x), x < 6 ? 1 : (x - 6) / 4 + 2);
            Check.due("three: witness(" + x + ")", order.witness(x), witness ? 1 : 0);
        }
        Check.due("three: witnesses(1)", order.witnesses(1), 3);
        Check.due("three: witnesses(2)", order.witnesses(2), 3);
    }

    private static void twoMembersStayInRoundOne() {
        GossipOrder order = new GossipOrder();
        order.alone(0, 0, false);
        order.alone(1, 0, false);
        for (int n = 2; n < 48; n++) {
            order.gossip(n % 2, n - 1, 0, false);
            Check.due("two: round(" + n + ")", order.round(n), 1);
            Check.due("two: witness(" + n + ")", order.witness(n), 0);
        }
        Check.due("two: witnesses(1)", order.witnesses(1), 2);
        Check.due("two: settled", order.settled(), 0);
    }

    private static void lateMemberSkipsRounds() {
        GossipOrder order = Runs.ringOfThree(19, 0);
        Check.due("late: first event", order.alone(3, 0, false), 19);
        Check.due("late: its round is 1", order.round(19), 1);
        Check.due("late: it is a witness", order.witness(19), 1);
        Check.due("late: witnesses(1)", order.witnesses(1), 4);
        Check.due("late: alone again", order.alone(3, 0, false), 20);
        Check.due("late: no witness", order.witness(20), 0);
        order.gossip(3, 15, 0, false);
        Check.due("late: round 4 at once", order.round(21), 4);
        Check.due("late: a witness of it", order.witness(21), 1);
        Check.due("late: witnesses(4)", order.witnesses(4), 4);
        Check.due("late: none in round 2", order.witnesses(2), 3);
        Check.due("late: none in round 3", order.witnesses(3), 3);
        order.gossip(3, 16, 0, false);
        Check.due("late: 14 and 15 are well under it, 16 is not", order.round(22), 4);
        order.gossip(3, 17, 0, false);
        Check.due("late: 16 too: round 5", order.round(23), 5);
    }

    private static void wrongNumbersAreBad() {
        GossipOrder order = Runs.ring(12, 0);
        int[] wrong = {-1, 12, 48, 63, 64, 76, Integer.MIN_VALUE, Integer.MAX_VALUE};
        for (int x : wrong) {
            Check.due("bad: under(" + x + ", 3)", order.under(x, 3), BAD);
            Check.due("bad: under(3, " + x + ")", order.under(3, x), BAD);
            Check.due("bad: under(" + x + ", " + x + ")", order.under(x, x), BAD);
            Check.due("bad: wellUnder(" + x + ", 3)", order.wellUnder(x, 3), BAD);
            Check.due("bad: wellUnder(3, " + x + ")", order.wellUnder(3, x), BAD);
            Check.due("bad: round(" + x + ")", order.round(x), BAD);
            Check.due("bad: witness(" + x + ")", order.witness(x), BAD);
        }
    }
}
