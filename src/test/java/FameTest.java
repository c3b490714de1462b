/** Promises 11 to 13: fame, decider, settled. */
final class FameTest {
    private static final int BAD = GossipOrder.BAD;
    private static final int NONE = GossipOrder.NONE;
    private static final int OPEN = 0;
    private static final int NOT = 1;
    private static final int FAMOUS = 2;

    private FameTest() {
    }

    public static void main(String[] args) {
        fameInRing();
        settledInRing();
        lateFirstEventIsNotFamous();
        lateWitnessDecidesInstead();
        coinsDecideFiveRoundsOn();
        threeOfAKindWaitFiveRoundsOn();
        wrongNumbers();
        Check.end();
    }

    private static void fameInRing() {
        GossipOrder order = Runs.ring(48, 0);
        for (int x = 0; x < 48; x++) {
            boolean witness = x < 4 || x > 6;
            int decider = x < 7 ? 11 : (x - 7) / 4 * 4 + 15;
            boolean decided = decider < 48;
            int fame = decided ? FAMOUS : OPEN;
            Check.due("ring: fame(" + x + ")", order.fame(x), witness ? fame : NONE);
            Check.due("ring: decider(" + x + ")", order.decider(x), witness && decided ? decider : NONE);
        }
    }

    private static void settledInRing() {
        GossipOrder order = new GossipOrder();
        for (int n = 0; n < 48; n++) {
            Runs.stepRing(order, 4, n, 0);
            int due = n < 11 ? 0 : (n - 11) / 4 + 1;
            Check.due("ring: settled after " + n, order.settled(), due);
            Check.due("ring: fame(0) after " + n, order.fame(0), n < 11 ? OPEN : FAMOUS);
            Check.due("ring: decider(0) after " + n, order.decider(0), n < 11 ? NONE : 11);
        }
    }

    /** No witness of round 2 knows it: event 10, the first of round 3, hears three say no. */
    private static void lateFirstEventIsNotFamous() {
        GossipOrder order = Runs.ringOfThree(15, 0);
        Check.due("late: settled before", order.settled(), 2);
        order.alone(3, 0, true);
        Check.due("late: fame", order.fame(15), NOT);
        Check.due("late: decider", order.decider(15), 10);
        Check.due("late: settled after", order.settled(), 2);
        Check.due("late: fame of the others", order.fame(0), FAMOUS);

        GossipOrder early = Runs.ringOfThree(9, 0);
        early.alone(3, 0, true);
        Check.due("late, but no round 3 yet: fame", early.fame(9), OPEN);
        Check.due("late, but no round 3 yet: decider", early.decider(9), NONE);
    }

    private static void lateWitnessDecidesInstead() {
        GossipOrder order = new GossipOrder();
        for (int n = 0; n < 19; n++) {
            Runs.step(order, Runs.LATE_DECIDER[n], n, false);
        }
        Check.due("late decider: fame before", order.fame(6), FAMOUS);
        Check.due("late decider: decider before", order.decider(6), 18);
        Check.due("late decider: its round", order.round(18), 4);
        Runs.step(order, Runs.LATE_DECIDER[19], 19, false);
        Check.due("late decider: fame after", order.fame(6), FAMOUS);
        Check.due("late decider: decider after", order.decider(6), 19);
        Check.due("late decider: its round", order.round(19), 3);
    }

    private static void coinsDecideFiveRoundsOn() {
        for (int coins = 0; coins < 4; coins++) {
            boolean coinOfVoters = coins % 2 == 1;
            boolean coinOfRest = coins / 2 == 1;
            String what = "coins " + coinOfVoters + ", else " + coinOfRest + ": ";
            GossipOrder order = new GossipOrder();
            for (int n = 0; n < Runs.LONG_OPEN.length; n++) {
                Check.due(what + "fame(3) before " + n, order.fame(3), n < 4 ? BAD : OPEN);
                Check.due(what + "settled before " + n, order.settled(), 0);
                boolean voter = n >= 23 && n <= 26;
                Runs.step(order, Runs.LONG_OPEN[n], n, voter ? coinOfVoters : coinOfRest);
            }
            Check.due(what + "fame(3)", order.fame(3), coinOfVoters ? FAMOUS : NOT);
            Check.due(what + "decider(3)", order.decider(3), 28);
            Check.due(what + "round of the decider", order.round(28), 7);
        }
    }

    private static void threeOfAKindWaitFiveRoundsOn() {
        for (int run = 0; run < 4; run++) {
            boolean coin = run % 2 == 1;
            int[][] events = run < 2 ? Runs.LONG_OPEN_THEN_NO : Runs.LONG_OPEN_THEN_YES;
            int last = events.length - 1;
            String what = "three say " + (run < 2 ? "no" : "yes") + ", coins " + coin + ": ";
            GossipOrder order = new GossipOrder();
            for (int n = 0; n <= last; n++) {
                Check.due(what + "fame(3) before " + n, order.fame(3), n < 4 ? BAD : OPEN);
                Runs.step(order, events[n], n, coin);
            }
            Check.due(what + "fame(3)", order.fame(3), run < 2 ? NOT : FAMOUS);
            Check.due(what + "decider(3)", order.decider(3), last);
            Check.due(what + "round of the decider", order.round(last), 7);
        }
    }

    private static void wrongNumbers() {
        GossipOrder order = Runs.ring(12, 0);
        int[] wrong = {-1, 12, 48, 64, Integer.MIN_VALUE, Integer.MAX_VALUE};
        for (int x : wrong) {
            Check.due("bad: fame(" + x + ")", order.fame(x), BAD);
            Check.due("bad: decider(" + x + ")", order.decider(x), BAD);
        }
        Check.due("no witness: fame", order.fame(5), NONE);
        Check.due("no witness: decider", order.decider(5), NONE);
    }
}
