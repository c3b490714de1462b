/** Promises 14 to 19: received, finalTime, ordered, orderAt, placeOf, digest. */
final class OrderTest {
    private static final int BAD = GossipOrder.BAD;
    private static final int NONE = GossipOrder.NONE;
    private static final int LEAST = Integer.MIN_VALUE;
    private static final int MOST = Integer.MAX_VALUE;

    private OrderTest() {
    }

    public static void main(String[] args) {
        receivedInRing();
        orderInRing();
        orderOfThree();
        timesAtTheEnds();
        orderGrows();
        wrongNumbers();
        Check.end();
    }

    /** Round 1 settles first, but no event is under all the first events: it receives none. */
    private static void receivedInRing() {
        GossipOrder order = new GossipOrder();
        for (int n = 0; n < 48; n++) {
            Runs.stepRing(order, 4, n, 7);
            int due = n < 15 ? 0 : (n - 15) / 4 * 4 + 8;
            Check.due("ring: ordered after " + n, order.ordered(), due);
        }
        for (int x = 0; x < 48; x++) {
            int due = x < 8 ? 2 : (x - 8) / 4 + 3;
            Check.due("ring: received(" + x + ")", order.received(x), x < 40 ? due : NONE);
            Check.due("ring: finalTime(" + x + ")", order.finalTime(x), x < 40 ? 7 : 0);
            Check.due("ring: placeOf(" + x + ")", order.placeOf(x), x < 40 ? x : NONE);
            Check.due("ring: orderAt(" + x + ")", order.orderAt(x), x < 40 ? x : NONE);
        }
    }

    private static void checkOrder(String what, GossipOrder order, int[] events, int[] times) {
        int digest = 0;
        Check.due(what + "ordered", order.ordered(), events.length);
        for (int k = 0; k < events.length; k++) {
            int x = events[k];
            digest += (k + 1) * (x + 1);
            Check.due(what + "orderAt(" + k + ")", order.orderAt(k), x);
            Check.due(what + "placeOf(" + x + ")", order.placeOf(x), k);
            Check.due(what + "finalTime(" + x + ")", order.finalTime(x), times[k]);
        }
        Check.due(what + "orderAt behind the end", order.orderAt(events.length), NONE);
        Check.due(what + "digest", order.digest(), digest);
    }

    /**
     * The famous witnesses of round 2 are 7, 8, 9, 10. Of event 0, say, their makers
     * know since 7, 0, 5 and 6: in order 0, 50, 60, 70, so its final time is 60.
     */
    private static void orderInRing() {
        GossipOrder order = Runs.ring(20, Runs.tens());
        int[] events = {3, 0, 4, 1, 5, 2, 6, 7, 8, 9, 10, 11};
        int[] times = {50, 60, 60, 70, 70, 80, 80, 90, 100, 110, 120, 130};
        checkOrder("tens: ", order, events, times);

        GossipOrder before = Runs.ring(19, Runs.tens());
        Check.due("tens: digest of round 2", before.digest(), 190);
    }

    /** Three famous witnesses, 6, 7, 8: the middle one of three times. */
    private static void orderOfThree() {
        GossipOrder order = Runs.ringOfThree(15, Runs.tens());
        int[] events = {2, 0, 3, 1, 4, 5, 6};
        int[] times = {30, 40, 40, 50, 50, 60, 70};
        checkOrder("three: ", order, events, times);

        order.alone(3, 0, false);
        checkOrder("three, and a late first event: ", order, events, times);
        Check.due("late: received", order.received(15), NONE);
        Check.due("late: placeOf", order.placeOf(15), NONE);
    }

    private static void timesAtTheEnds() {
        int[] at = new int[48];
        for (int n = 0; n < 48; n++) {
            at[n] = n <= 6 ? LEAST + n : MOST - n;
        }
        GossipOrder order = Runs.ring(16, at);
        int late = MOST - 8;
        int[] events = {3, 0, 4, 1, 2, 5, 6, 7};
        int[] times = {LEAST + 5, LEAST + 6, LEAST + 6, late, late, late, late, late};
        checkOrder("ends: ", order, events, times);
    }

    /** The round comes before the final time: times that fall put no later round in front. */
    private static void orderGrows() {
        int[] falling = new int[48];
        for (int n = 0; n < 48; n++) {
            falling[n] = -n;
        }
        GossipOrder order = new GossipOrder();
        int[] seen = new int[48];
        int count = 0;
        for (int n = 0; n < 48; n++) {
            Runs.stepRing(order, 4, n, falling[n]);
            for (int k = 0; k < count; k++) {
                Check.due("falling: orderAt(" + k + ") after " + n, order.orderAt(k), seen[k]);
            }
            for (; count < order.ordered(); count++) {
                seen[count] = order.orderAt(count);
            }
        }
        int[] round3 = {11, 10, 9, 8};
        for (int k = 0; k < 4; k++) {
            Check.due("falling: orderAt(" + (8 + k) + ")", order.orderAt(8 + k), round3[k]);
            Check.due("falling: finalTime(" + round3[k] + ")", order.finalTime(round3[k]), k - 12);
        }
    }

    private static void wrongNumbers() {
        GossipOrder order = Runs.ring(16, 5);
        int[] wrong = {-1, 16, 48, 64, LEAST, MOST};
        for (int x : wrong) {
            Check.due("bad: received(" + x + ")", order.received(x), BAD);
            Check.due("bad: finalTime(" + x + ")", order.finalTime(x), 0);
            Check.due("bad: placeOf(" + x + ")", order.placeOf(x), BAD);
            Check.due("bad: orderAt(" + x + ")", order.orderAt(x), NONE);
        }
        Check.due("not received: received", order.received(8), NONE);
        Check.due("not received: finalTime", order.finalTime(8), 0);
        Check.due("not received: placeOf", order.placeOf(8), NONE);
        Check.due("behind the order: orderAt", order.orderAt(8), NONE);
    }
}
