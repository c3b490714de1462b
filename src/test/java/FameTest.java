/** Promises 11 to 13: fame, decider, settled. */
final class FameTest {
    private static final int BAD = GossipOrder.BAD;
    private static final int NONE = GossipOrder.NONE;
    private static final int OPEN = 0;
    private static final int NOT = 1;
    private static final int FAMOUS = 2;

    private FameTest() {
    }

    public static void main(String[] args) {
        fameInRing();
        lateFirstEventIsNotFamous();
        lateWitnessDecidesInstead();
        fourOfAKindDecide();
        threeAgainstOneDecide();
        asManyYesAsNoIsYes();
        coinsDecideFiveRoundsOn();
        threeOfAKindWaitFiveRoundsOn();
        coinsDecideTenRoundsOn();
        threeOfAKindWaitTenRoundsOn();
        fameOfNoEventIsBad();
        fameOfNoWitnessIsNone();
        fameIsOpenUntilTwoRoundsOn();

        deciderOfNoEventIsBad();
        deciderOfNoWitnessIsNone();
        deciderOfOpenFameIsNone();

        settledInRing();
        noRoundIsSettledAtFirst();
        aRoundWithAnOpenFameIsNotSettled();
        aRoundAfterAnOpenOneIsNotSettled();
        Check.end();
    }

    private static void fameInRing() {
        GossipOrder order = Runs.ring(48, 0);
        for (int x = 0; x < 48; x++) {
            boolean witness = x < 4 || x > 6;
            int decider = x < 7 ? 11 : (x - 7) / 4 * 4 + 15;
            boolean decided = decider < 48;
            int fame = decided ? FAMOUS : OPEN;
            Check.due("ring: fame(" + x + ")", order.fame(x), witness ? fame : NONE);
            Check.due("ring: decider(" + x + ")", order.decider(x), witness && decided ? decider : NONE);
        }
    }

    /** No witness of round 2 knows it: event 10, the first of round 3, hears three say no. */
    private static void lateFirstEventIsNotFamous() {
        GossipOrder order = Runs.ringOfThree(15, 0);
        Check.due("late: settled before", order.settled(), 2);
        order.alone(3, 0, true);
        Check.due("late: fame", order.fame(15), NOT);
        Check.due("late: decider", order.decider(15), 10);
        Check.due("late: settled after", order.settled(), 2);
        Check.due("late: fame of the others", order.fame(0), FAMOUS);

        GossipOrder early = Runs.ringOfThree(9, 0);
        early.alone(3, 0, true);
        Check.due("late, but no round 3 yet: fame", early.fame(9), OPEN);
        Check.due("late, but no round 3 yet: decider", early.decider(9), NONE);
    }

    private static void lateWitnessDecidesInstead() {
        GossipOrder order = Runs.play(Runs.LATE_DECIDER, 19, false);
        Check.due("late decider: fame before", order.fame(6), FAMOUS);
        Check.due("late decider: decider before", order.decider(6), 18);
        Check.due("late decider: its round", order.round(18), 4);
        Runs.step(order, Runs.LATE_DECIDER[19], 19, false);
        Check.due("late decider: fame after", order.fame(6), FAMOUS);
        Check.due("late decider: decider after", order.decider(6), 19);
        Check.due("late decider: its round", order.round(19), 3);
    }

    /** What the witnesses of the round after x's that are well under y say of x. */
    private static void checkHeard(String what, GossipOrder order, int x, int y, int dueYes, int dueNo) {
        int[] said = new int[2];
        for (int voter = 0; voter < y; voter++) {
            boolean asked = order.witness(voter) == 1 && order.round(voter) == order.round(x) + 1;
            if (asked && order.wellUnder(voter, y) == 1) {
                said[order.under(x, voter)]++;
            }
        }
        Check.due(what + "yes heard by " + y, said[1], dueYes);
        Check.due(what + "no heard by " + y, said[0], dueNo);
    }

    private static void fourOfAKindDecide() {
        GossipOrder order = Runs.play(Runs.FOUR_SAY_YES, 15, false);
        Check.due("four say yes: round of the decider", order.round(14), 3);
        checkHeard("four say yes: ", order, 0, 14, 4, 0);
        Check.due("four say yes: fame", order.fame(0), FAMOUS);
        Check.due("four say yes: decider", order.decider(0), 14);
    }

    private static void threeAgainstOneDecide() {
        GossipOrder order = Runs.play(Runs.ONE_SAYS_YES, 16, false);
        Check.due("one says yes: round of the decider", order.round(15), 3);
        checkHeard("one says yes: ", order, 3, 15, 1, 3);
        Check.due("one says yes: fame", order.fame(3), NOT);
        Check.due("one says yes: decider", order.decider(3), 15);
    }

    private static void asManyYesAsNoIsYes() {
        GossipOrder order = Runs.play(Runs.TIES, 16, false);
        for (int y = 12; y < 16; y++) {
            Check.due("ties: round(" + y + ")", order.round(y), 3);
            checkHeard("ties: ", order, 3, y, 2, 2);
        }
        Check.due("ties: two of a kind decide nothing", order.fame(3), OPEN);
        Runs.step(order, Runs.TIES[16], 16, false);
        Check.due("ties: fame", order.fame(3), FAMOUS);
        Check.due("ties: decider", order.decider(3), 16);
        Check.due("ties: round of the decider", order.round(16), 4);
    }

    private static void coinsDecideFiveRoundsOn() {
        for (int coins = 0; coins < 4; coins++) {
            boolean coinOfVoters = coins % 2 == 1;
            boolean coinOfRest = coins / 2 == 1;
            String what = "coins " + coinOfVoters + ", else " + coinOfRest + ": ";
            GossipOrder order = new GossipOrder();
            for (int n = 0; n < Runs.LONG_OPEN.length; n++) {
                Check.due(what + "fame(3) before " + n, order.fame(3), n < 4 ? BAD : OPEN);
                Check.due(what + "settled before " + n, order.settled(), 0);
                boolean voter = n >= 23 && n <= 26;
                Runs.step(order, Runs.LONG_OPEN[n], n, voter ? coinOfVoters : coinOfRest);
            }
            Check.due(what + "fame(3)", order.fame(3), coinOfVoters ? FAMOUS : NOT);
            Check.due(what + "decider(3)", order.decider(3), 28);
            Check.due(what + "round of the decider", order.round(28), 7);
        }
    }

    private static void threeOfAKindWaitFiveRoundsOn() {
        for (int run = 0; run < 4; run++) {
            boolean coin = run % 2 == 1;
            int[][] events = run < 2 ? Runs.LONG_OPEN_THEN_NO : Runs.LONG_OPEN_THEN_YES;
            int last = events.length - 1;
            String what = "three say " + (run < 2 ? "no" : "yes") + ", coins " + coin + ": ";
            GossipOrder order = new GossipOrder();
            for (int n = 0; n <= last; n++) {
                Check.due(what + "fame(3) before " + n, order.fame(3), n < 4 ? BAD : OPEN);
                Runs.step(order, events[n], n, coin);
            }
            Check.due(what + "fame(3)", order.fame(3), run < 2 ? NOT : FAMOUS);
            Check.due(what + "decider(3)", order.decider(3), last);
            Check.due(what + "round of the decider", order.round(last), 7);
        }
    }

    private static void coinsDecideTenRoundsOn() {
        for (boolean coinOfVoters : new boolean[] {false, true}) {
            String what = "ten rounds, coins " + coinOfVoters + ": ";
            GossipOrder order = new GossipOrder();
            for (int n = 0; n < 48; n++) {
                Check.due(what + "fame(3) before " + n, order.fame(3), n < 4 ? BAD : OPEN);
                Check.due(what + "settled before " + n, order.settled(), 0);
                boolean coin = n >= 43 ? coinOfVoters : n == 25 || n == 26;
                Runs.step(order, Runs.OPEN_TEN_ROUNDS[n], n, coin);
            }
            Check.due(what + "round of the first coin", order.round(43), 11);
            Check.due(what + "round of the decider", order.round(47), 12);
            Check.due(what + "fame(3)", order.fame(3), coinOfVoters ? FAMOUS : NOT);
            Check.due(what + "decider(3)", order.decider(3), 47);
        }
    }

    private static void threeOfAKindWaitTenRoundsOn() {
        GossipOrder order = new GossipOrder();
        for (int n = 0; n < Runs.NO_AFTER_TEN_ROUNDS.length; n++) {
            Runs.step(order, Runs.NO_AFTER_TEN_ROUNDS[n], n, n == 23 || n == 26);
            Check.due("three say no ten rounds on: fame(3) after " + n, order.fame(3), n < 3 ? BAD : OPEN);
        }
        Check.due("three say no ten rounds on: round of the one who hears it", order.round(43), 11);
    }

    private static void fameOfNoEventIsBad() {
        Edges.askOfNoEvent("fame", GossipOrder::fame, BAD);
    }

    private static void fameOfNoWitnessIsNone() {
        GossipOrder order = Runs.ring(12, 0);
        for (int x = 4; x <= 6; x++) {
            Check.due("no witness: fame(" + x + ")", order.fame(x), NONE);
        }
        GossipOrder early = Runs.ring(5, 0);
        Check.due("no witness, all fame open: fame(4)", early.fame(4), NONE);
    }

    /** Event 7 is the first of round 2, event 11 of round 3. */
    private static void fameIsOpenUntilTwoRoundsOn() {
        for (int count : new int[] {1, 4, 7, 8, 11}) {
            GossipOrder order = Runs.ring(count, 0);
            Check.due(count + " events: fame(0)", order.fame(0), OPEN);
        }
        Check.due("12 events: fame(0)", Runs.ring(12, 0).fame(0), FAMOUS);
        Check.due("12 events: fame of a witness of round 2", Runs.ring(12, 0).fame(7), OPEN);
        Check.due("12 events: fame of the decider", Runs.ring(12, 0).fame(11), OPEN);
    }

    private static void deciderOfNoEventIsBad() {
        Edges.askOfNoEvent("decider", GossipOrder::decider, BAD);
    }

    private static void deciderOfNoWitnessIsNone() {
        GossipOrder order = Runs.ring(12, 0);
        for (int x = 4; x <= 6; x++) {
            Check.due("no witness: decider(" + x + ")", order.decider(x), NONE);
        }
    }

    private static void deciderOfOpenFameIsNone() {
        for (int count : new int[] {1, 4, 7, 8, 11}) {
            GossipOrder order = Runs.ring(count, 0);
            Check.due(count + " events: decider(0)", order.decider(0), NONE);
        }
        Check.due("12 events: decider(0)", Runs.ring(12, 0).decider(0), 11);
        Check.due("12 events: decider of a witness of round 2", Runs.ring(12, 0).decider(7), NONE);
    }

    private static void settledInRing() {
        GossipOrder order = new GossipOrder();
        for (int n = 0; n < 48; n++) {
            Runs.stepRing(order, 4, n, 0);
            int due = n < 11 ? 0 : (n - 11) / 4 + 1;
            Check.due("ring: settled after " + n, order.settled(), due);
            Check.due("ring: fame(0) after " + n, order.fame(0), n < 11 ? OPEN : FAMOUS);
            Check.due("ring: decider(0) after " + n, order.decider(0), n < 11 ? NONE : 11);
        }
    }

    private static void noRoundIsSettledAtFirst() {
        for (int count : new int[] {0, 1, 4, 7, 8, 11}) {
            Check.due(count + " events: settled", Runs.ring(count, 0).settled(), 0);
        }
        Check.due("12 events: settled", Runs.ring(12, 0).settled(), 1);
    }

    private static void aRoundWithAnOpenFameIsNotSettled() {
        GossipOrder order = Runs.play(Runs.LONG_OPEN, 28, true);
        for (int x = 0; x < 4; x++) {
            Check.due("one open: fame(" + x + ")", order.fame(x), x == 3 ? OPEN : FAMOUS);
        }
        Check.due("one open: settled", order.settled(), 0);
        Check.due("one open: ordered", order.ordered(), 0);
    }

    private static void aRoundAfterAnOpenOneIsNotSettled() {
        GossipOrder order = Runs.play(Runs.LONG_OPEN, 28, true);
        for (int x = 0; x < 28; x++) {
            if (order.witness(x) == 1 && order.round(x) == 2) {
                Check.due("after an open one: fame(" + x + ")", order.fame(x), FAMOUS);
            }
        }
        Check.due("after an open one: settled", order.settled(), 0);
        Runs.step(order, Runs.LONG_OPEN[28], 28, true);
        Check.due("none open any more: settled", order.settled(), 5);
    }
}
