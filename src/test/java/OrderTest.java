/** Promises 14 to 19: received, finalTime, ordered, orderAt, placeOf, digest. */
final class OrderTest {
    private static final int BAD = GossipOrder.BAD;
    private static final int NONE = GossipOrder.NONE;
    private static final int LEAST = Edges.LEAST;
    private static final int MOST = Edges.MOST;

    private OrderTest() {
    }

    public static void main(String[] args) {
        receivedInRing();
        aSettledRoundMayReceiveNone();
        aWitnessThatIsNotFamousCountsForNothing();
        receivedOfNoEventIsBad();
        receivedOfAnEventNotReceivedIsNone();

        finalTimeIsTheUpperMiddleOfFour();
        finalTimeIsTheMiddleOfThree();
        finalTimeTakesTheEarliestByNumber();
        finalTimeMayBeOfTheFamousThemselves();
        finalTimeMayBeOfAnEventMadeAlone();
        finalTimesAtTheEnds();
        finalTimeOfNoEventIs0();
        finalTimeOfAnEventNotReceivedIs0();

        theRoundComesBeforeTheFinalTime();
        theNumberComesLast();
        orderedIs0AtFirst();
        orderAtNoPlaceIsNone();
        placeOfNoEventIsBad();
        placeOfAnEventNotReceivedIsNone();

        digestOfNoOrderIs0();
        digestOfTheLongestRing();
        Check.end();
    }

    private static void receivedInRing() {
        GossipOrder order = new GossipOrder();
        for (int n = 0; n < 48; n++) {
            Runs.stepRing(order, 4, n, 7);
            int due = n < 15 ? 0 : (n - 15) / 4 * 4 + 8;
            Check.due("ring: ordered after " + n, order.ordered(), due);
        }
        for (int x = 0; x < 48; x++) {
            int due = x < 8 ? 2 : (x - 8) / 4 + 3;
            Check.due("ring: received(" + x + ")", order.received(x), x < 40 ? due : NONE);
            Check.due("ring: finalTime(" + x + ")", order.finalTime(x), x < 40 ? 7 : 0);
        }
    }

    /** Round 1 settles first, but no event is under all the first events. */
    private static void aSettledRoundMayReceiveNone() {
        GossipOrder order = Runs.ring(12, 7);
        Check.due("round 1: settled", order.settled(), 1);
        Check.due("round 1: ordered", order.ordered(), 0);
        Check.due("round 1: received(0)", order.received(0), NONE);
        Check.due("round 1: placeOf(0)", order.placeOf(0), NONE);
        Check.due("round 1: finalTime(0)", order.finalTime(0), 0);
        Check.due("round 1: orderAt(0)", order.orderAt(0), NONE);
        Check.due("round 1: digest", order.digest(), 0);
    }

    private static void checkOrder(String what, GossipOrder order, int[] events, int[] times) {
        int digest = 0;
        Check.due(what + "ordered", order.ordered(), events.length);
        for (int k = 0; k < events.length; k++) {
            int x = events[k];
            digest += (k + 1) * (x + 1);
            Check.due(what + "orderAt(" + k + ")", order.orderAt(k), x);
            Check.due(what + "placeOf(" + x + ")", order.placeOf(x), k);
            Check.due(what + "finalTime(" + x + ")", order.finalTime(x), times[k]);
        }
        Check.due(what + "orderAt behind the end", order.orderAt(events.length), NONE);
        Check.due(what + "digest", order.digest(), digest);
    }

    /**
     * The famous witnesses of round 2 are 7, 8, 9, 10. Of event 0, say, their makers
     * know since 7, 0, 5 and 6: in order 0, 50, 60, 70, so its final time is 60.
     */
    private static void finalTimeIsTheUpperMiddleOfFour() {
        GossipOrder order = Runs.ring(20, Runs.tens());
        int[] events = {3, 0, 4, 1, 5, 2, 6, 7, 8, 9, 10, 11};
        int[] times = {50, 60, 60, 70, 70, 80, 80, 90, 100, 110, 120, 130};
        checkOrder("four: ", order, events, times);
        Check.due("four: digest of round 2", Runs.ring(19, Runs.tens()).digest(), 190);
    }

    /** Three famous witnesses, 6, 7, 8. */
    private static void finalTimeIsTheMiddleOfThree() {
        GossipOrder order = Runs.ringOfThree(15, Runs.tens());
        int[] events = {2, 0, 3, 1, 4, 5, 6};
        int[] times = {30, 40, 40, 50, 50, 60, 70};
        checkOrder("three: ", order, events, times);
    }

    /** Events 15 and 16 are late witnesses of rounds 1 and 2; event 6 is under 6, 7, 8, but not under 16. */
    private static void aWitnessThatIsNotFamousCountsForNothing() {
        GossipOrder order = Runs.ringOfThree(15, Runs.tens());
        order.alone(3, MOST, false);
        order.gossip(3, 5, MOST, false);
        Check.due("late: under(6, 16)", order.under(6, 16), 0);
        Check.due("late: a witness", order.witness(16), 1);
        Check.due("late: of round 2", order.round(16), 2);
        Check.due("late: fame(15)", order.fame(15), 1);
        Check.due("late: fame(16)", order.fame(16), 1);
        Check.due("late: settled", order.settled(), 2);
        int[] events = {2, 0, 3, 1, 4, 5, 6};
        int[] times = {30, 40, 40, 50, 50, 60, 70};
        checkOrder("late: ", order, events, times);
        Check.due("late: received(15)", order.received(15), NONE);
        Check.due("late: received(16)", order.received(16), NONE);
    }

    private static void receivedOfNoEventIsBad() {
        Edges.askOfNoEvent("received", GossipOrder::received, BAD);
    }

    /** With 16 events of the ring, 0 .. 7 are received; the last one never is. */
    private static void askOfNotReceived(String call, Edges.Question question, int due, int dueOfReceived) {
        for (int count : new int[] {1, 4, 15, 16, 47, 48}) {
            GossipOrder order = Runs.ring(count, 9);
            Check.due(count + " events: " + call + "(last)", question.ask(order, count - 1), due);
        }
        GossipOrder order = Runs.ring(16, 9);
        Check.due("received: " + call + "(7)", question.ask(order, 7), dueOfReceived);
        Check.due("not received: " + call + "(8)", question.ask(order, 8), due);
    }

    private static void receivedOfAnEventNotReceivedIsNone() {
        askOfNotReceived("received", GossipOrder::received, NONE, 2);
    }

    /** As before, but of the times 0, -5, -6, -7 since when event 0 is known the middle one is -5. */
    private static void finalTimeTakesTheEarliestByNumber() {
        Check.due("falling: finalTime(0)", Runs.ring(16, falling()).finalTime(0), -5);
    }

    private static int[] falling() {
        int[] times = new int[48];
        for (int n = 0; n < 48; n++) {
            times[n] = -n;
        }
        return times;
    }

    /** The makers of 7, 8, 9, 10 know of event 7 by these: all their other events under them are before it. */
    private static void finalTimeMayBeOfTheFamousThemselves() {
        Check.due("themselves: finalTime(7)", Runs.ring(16, Runs.tens()).finalTime(7), 90);
    }

    /** Event 3 is made alone at 100; of it know member 0 since 100, member 1 since 5, member 2 since 6. */
    private static void finalTimeMayBeOfAnEventMadeAlone() {
        GossipOrder order = Runs.ringOfThree(3, 0);
        order.alone(0, 100, false);
        order.gossip(0, 2, 4, false);
        for (int n = 5; n < 16; n++) {
            order.gossip((n - 1) % 3, n - 1, n, false);
        }
        Check.due("alone: received(3)", order.received(3), 2);
        Check.due("alone: finalTime(3)", order.finalTime(3), 6);
    }

    private static void finalTimesAtTheEnds() {
        int[] at = new int[48];
        for (int n = 0; n < 48; n++) {
            at[n] = n <= 6 ? LEAST + n : MOST - n;
        }
        GossipOrder order = Runs.ring(16, at);
        int late = MOST - 8;
        int[] events = {3, 0, 4, 1, 2, 5, 6, 7};
        int[] times = {LEAST + 5, LEAST + 6, LEAST + 6, late, late, late, late, late};
        checkOrder("ends: ", order, events, times);
        Check.due("all least: finalTime", Runs.ring(16, LEAST).finalTime(0), LEAST);
        Check.due("all greatest: finalTime", Runs.ring(16, MOST).finalTime(0), MOST);
    }

    private static void finalTimeOfNoEventIs0() {
        Edges.askOfNoEvent("finalTime", GossipOrder::finalTime, 0);
    }

    private static void finalTimeOfAnEventNotReceivedIs0() {
        askOfNotReceived("finalTime", GossipOrder::finalTime, 0, 9);
    }

    /** From round 3 on the four events of a round are known since the four events from each on. */
    private static void theRoundComesBeforeTheFinalTime() {
        GossipOrder order = Runs.ring(48, falling());
        for (int k = 8; k < 40; k++) {
            int due = k / 4 * 4 + 3 - k % 4;
            Check.due("falling: orderAt(" + k + ")", order.orderAt(k), due);
            Check.due("falling: placeOf(" + due + ")", order.placeOf(due), k);
            Check.due("falling: finalTime(" + due + ")", order.finalTime(due), -due - 1);
            Check.due("falling: received(" + due + ")", order.received(due), due / 4 + 1);
        }
    }

    private static void theNumberComesLast() {
        GossipOrder order = Runs.ring(48, 7);
        for (int x = 0; x < 48; x++) {
            Check.due("one time: placeOf(" + x + ")", order.placeOf(x), x < 40 ? x : NONE);
            Check.due("one time: orderAt(" + x + ")", order.orderAt(x), x < 40 ? x : NONE);
        }
    }

    private static void orderedIs0AtFirst() {
        for (int count : new int[] {0, 1, 4, 12, 15}) {
            Check.due(count + " events: ordered", Runs.ring(count, 9).ordered(), 0);
        }
        Check.due("16 events: ordered", Runs.ring(16, 9).ordered(), 8);
    }

    private static void orderAtNoPlaceIsNone() {
        Edges.askOfNoEvent("orderAt", GossipOrder::orderAt, NONE);
        GossipOrder order = Runs.ring(16, 9);
        Check.due("the last place: orderAt(7)", order.orderAt(7), 7);
        for (int k = 8; k < 16; k++) {
            Check.due("behind it: orderAt(" + k + ")", order.orderAt(k), NONE);
        }
        for (int k = 0; k < 15; k++) {
            Check.due("no order: orderAt(" + k + ")", Runs.ring(15, 9).orderAt(k), NONE);
        }
    }

    private static void placeOfNoEventIsBad() {
        Edges.askOfNoEvent("placeOf", GossipOrder::placeOf, BAD);
    }

    private static void placeOfAnEventNotReceivedIsNone() {
        askOfNotReceived("placeOf", GossipOrder::placeOf, NONE, 7);
    }

    private static void digestOfNoOrderIs0() {
        for (int count : new int[] {0, 1, 4, 12, 15}) {
            Check.due(count + " events: digest", Runs.ring(count, 9).digest(), 0);
        }
        Check.due("16 events: digest", Runs.ring(16, 9).digest(), 204);
    }

    /** The squares of 1 .. 40; those of 1 .. 48 make 38024, so no digest is great enough to wrap. */
    private static void digestOfTheLongestRing() {
        Check.due("48 events: digest", Runs.ring(48, 9).digest(), 22140);
        Check.due("48 events, falling times: digest", Runs.ring(48, falling()).digest(), fallingDigest());
    }

    /** Places 8 .. 39 as told above; before them, by hand, the order of round 2. */
    private static int fallingDigest() {
        int[] round2 = {7, 2, 6, 1, 5, 0, 4, 3};
        int sum = 0;
        for (int k = 0; k < 40; k++) {
            int x = k < 8 ? round2[k] : k / 4 * 4 + 3 - k % 4;
            sum += (k + 1) * (x + 1);
        }
        return sum;
    }
}
