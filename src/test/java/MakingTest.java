/** Promises 1 to 5: a new object, alone, gossip, events, latest. */
final class MakingTest {
    private static final int BAD = GossipOrder.BAD;
    private static final int NONE = GossipOrder.NONE;
    private static final int FULL = GossipOrder.FULL;

    private MakingTest() {
    }

    public static void main(String[] args) {
        newObjectHasNoEvents();
        aloneMakesFirstAndLaterEvents();
        gossipMakesEventsWithOtherParent();
        gossipTestsInTheOrderNamed();
        refusedCallsChangeNothing();
        atMost48Events();
        objectsDoNotShareEvents();
        Check.end();
    }

    private static void newObjectHasNoEvents() {
        GossipOrder order = new GossipOrder();
        Check.due("new: events", order.events(), 0);
        for (int member = 0; member < 4; member++) {
            Check.due("new: latest(" + member + ")", order.latest(member), NONE);
        }
        Check.due("new: under(0, 0)", order.under(0, 0), BAD);
        Check.due("new: wellUnder(0, 0)", order.wellUnder(0, 0), BAD);
        Check.due("new: round(0)", order.round(0), BAD);
        Check.due("new: witness(0)", order.witness(0), BAD);
        Check.due("new: witnesses(0)", order.witnesses(0), 0);
        Check.due("new: witnesses(1)", order.witnesses(1), 0);
        Check.due("new: fame(0)", order.fame(0), BAD);
        Check.due("new: decider(0)", order.decider(0), BAD);
        Check.due("new: settled", order.settled(), 0);
        Check.due("new: received(0)", order.received(0), BAD);
        Check.due("new: finalTime(0)", order.finalTime(0), 0);
        Check.due("new: ordered", order.ordered(), 0);
        Check.due("new: orderAt(0)", order.orderAt(0), NONE);
        Check.due("new: placeOf(0)", order.placeOf(0), BAD);
        Check.due("new: digest", order.digest(), 0);
    }

    private static void aloneMakesFirstAndLaterEvents() {
        GossipOrder order = new GossipOrder();
        Check.due("alone: member 2, first", order.alone(2, 5, false), 0);
        Check.due("alone: member 0, first", order.alone(0, 5, true), 1);
        Check.due("alone: member 2, second", order.alone(2, -5, true), 2);
        Check.due("alone: the first event is under the second", order.under(0, 2), 1);
        Check.due("alone: another's event is not", order.under(1, 2), 0);
        Check.due("alone: a first event has nothing under it", order.under(0, 1), 0);
        Check.due("alone: member -1", order.alone(-1, 5, false), BAD);
        Check.due("alone: member 4", order.alone(4, 5, false), BAD);
        Check.due("alone: least member", order.alone(Integer.MIN_VALUE, 5, false), BAD);
        Check.due("alone: greatest member", order.alone(Integer.MAX_VALUE, 5, false), BAD);
        Check.due("latest(0)", order.latest(0), 1);
        Check.due("latest(1)", order.latest(1), NONE);
        Check.due("latest(2)", order.latest(2), 2);
        Check.due("latest(-1)", order.latest(-1), BAD);
        Check.due("latest(4)", order.latest(4), BAD);
        Check.due("latest(least)", order.latest(Integer.MIN_VALUE), BAD);
        Check.due("events", order.events(), 3);
    }

    private static void gossipMakesEventsWithOtherParent() {
        GossipOrder order = new GossipOrder();
        order.alone(0, 0, false);
        order.alone(1, 0, false);
        order.alone(1, 0, false);
        Check.due("gossip: with the latest", order.gossip(0, 2, 0, false), 3);
        Check.due("gossip: with an earlier one", order.gossip(0, 1, 0, false), 4);
        Check.due("gossip: with the same again", order.gossip(0, 1, 0, false), 5);
        Check.due("gossip: the other parent is under it", order.under(2, 3), 1);
        Check.due("gossip: the own parent is under it", order.under(0, 3), 1);
        Check.due("gossip: latest of the member", order.latest(0), 5);
        Check.due("gossip: latest of the other", order.latest(1), 2);
        Check.due("gossip: events", order.events(), 6);
    }

    private static void gossipTestsInTheOrderNamed() {
        GossipOrder order = new GossipOrder();
        Check.due("gossip: no events at all", order.gossip(0, 0, 0, false), BAD);
        order.alone(0, 0, false);
        Check.due("gossip: member -1", order.gossip(-1, 0, 0, false), BAD);
        Check.due("gossip: member 4", order.gossip(4, 0, 0, false), BAD);
        Check.due("gossip: other -1", order.gossip(0, -1, 0, false), BAD);
        Check.due("gossip: other behind the last", order.gossip(0, 1, 0, false), BAD);
        Check.due("gossip: greatest other", order.gossip(1, Integer.MAX_VALUE, 0, false), BAD);
        Check.due("gossip: least other", order.gossip(1, Integer.MIN_VALUE, 0, false), BAD);
        Check.due("gossip: own event", order.gossip(0, 0, 0, false), BAD);
        Check.due("gossip: no event so far", order.gossip(1, 0, 0, false), NONE);
        Check.due("gossip: no event so far, other not good", order.gossip(1, 1, 0, false), BAD);
        Check.due("gossip: events", order.events(), 1);
    }

    private static void refusedCallsChangeNothing() {
        GossipOrder order = Runs.ring(15, 0);
        order.alone(4, 99, true);
        order.gossip(0, 15, 99, true);
        order.gossip(0, 12, 99, true);
        Check.due("refused: events", order.events(), 15);
        Check.due("refused: latest", order.latest(0), 12);
        Check.due("refused: settled", order.settled(), 1);
        Check.due("refused: ordered", order.ordered(), 0);
        Check.due("refused: the next number", order.gossip(3, 14, 0, false), 15);
        Check.due("refused: then settled", order.settled(), 2);
    }

    private static void atMost48Events() {
        GossipOrder order = new GossipOrder();
        for (int n = 0; n < 48; n++) {
            Check.due("full: event " + n, Runs.stepRing(order, 3, n, n), n);
        }
        int settled = order.settled();
        int digest = order.digest();
        Check.due("full: alone", order.alone(0, 0, false), FULL);
        Check.due("full: first event of a member", order.alone(3, 0, false), FULL);
        Check.due("full: alone of no member", order.alone(4, 0, false), BAD);
        Check.due("full: gossip", order.gossip(0, 47, 0, false), FULL);
        Check.due("full: gossip of no member", order.gossip(4, 47, 0, false), BAD);
        Check.due("full: gossip with no event", order.gossip(0, 48, 0, false), BAD);
        Check.due("full: gossip with own event", order.gossip(2, 47, 0, false), BAD);
        Check.due("full: gossip of a member without event", order.gossip(3, 47, 0, false), NONE);
        Check.due("full: events", order.events(), 48);
        Check.due("full: latest(2)", order.latest(2), 47);
        Check.due("full: latest(3)", order.latest(3), NONE);
        Check.due("full: settled", order.settled(), settled);
        Check.due("full: digest", order.digest(), digest);
    }

    private static void objectsDoNotShareEvents() {
        GossipOrder first = new GossipOrder();
        GossipOrder second = new GossipOrder();
        first.alone(1, 0, false);
        Check.due("two objects: events", second.events(), 0);
        Check.due("two objects: latest", second.latest(1), NONE);
    }
}
