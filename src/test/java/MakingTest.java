/** Promises 1 to 5: a new object, alone, gossip, events, latest. */
final class MakingTest {
    private static final int BAD = GossipOrder.BAD;
    private static final int NONE = GossipOrder.NONE;
    private static final int FULL = GossipOrder.FULL;

    private MakingTest() {
    }

    public static void main(String[] args) {
        newObjectHasNoEvents();
        objectsDoNotShareEvents();

        aloneMakesAFirstEventWithoutParents();
        aloneMakesALaterEventWithItsOwnParentOnly();
        aloneOfNoMemberIsBad();
        aloneIsFullAt48();
        aloneIsBadBeforeItIsFull();

        gossipMakesAnEventWithTwoParents();
        gossipTakesAnyEarlierEventOfAnother();
        gossipOfNoMemberIsBad();
        gossipWithNoEventIsBad();
        gossipWithAnEventOfItsOwnIsBad();
        gossipOfAMemberWithoutEventsIsNone();
        gossipIsFullAt48();
        gossipIsBadBeforeItIsNone();
        gossipIsBadBeforeItIsFull();
        gossipIsNoneBeforeItIsFull();

        eventsCountsFromNoneToAll();
        latestFollowsEachMember();
        latestOfNoMemberIsBad();
        latestOfAMemberWithoutEventsIsNone();
        Check.end();
    }

    private static void newObjectHasNoEvents() {
        Check.due("new: events", new GossipOrder().events(), 0);
        GossipOrder order = new GossipOrder();
        for (int member = 0; member < 4; member++) {
            Check.due("new: latest(" + member + ")", order.latest(member), NONE);
        }
        Check.due("new: round(0)", order.round(0), BAD);
        Check.due("new: witnesses(1)", order.witnesses(1), 0);
        Check.due("new: settled", order.settled(), 0);
        Check.due("new: ordered", order.ordered(), 0);
        Check.due("new: orderAt(0)", order.orderAt(0), NONE);
        Check.due("new: digest", order.digest(), 0);
    }

    private static void objectsDoNotShareEvents() {
        GossipOrder first = new GossipOrder();
        GossipOrder second = new GossipOrder();
        first.alone(1, 0, false);
        Check.due("two objects: events", second.events(), 0);
        Check.due("two objects: latest", second.latest(1), NONE);
        Check.due("two objects: the other's first event", second.alone(1, 0, false), 0);
    }

    private static void aloneMakesAFirstEventWithoutParents() {
        GossipOrder order = new GossipOrder();
        int[] members = {2, 0, 3, 1};
        for (int n = 0; n < 4; n++) {
            Check.due("first: alone(" + members[n] + ")", order.alone(members[n], 5, true), n);
            for (int x = 0; x <= n; x++) {
                Check.due("first: under(" + x + ", " + n + ")", order.under(x, n), x == n ? 1 : 0);
            }
        }
    }

    private static void aloneMakesALaterEventWithItsOwnParentOnly() {
        GossipOrder order = new GossipOrder();
        order.alone(2, 5, false);
        order.alone(0, 5, true);
        Check.due("later: alone", order.alone(2, -5, true), 2);
        Check.due("later: its own parent is under it", order.under(0, 2), 1);
        Check.due("later: another's event is not", order.under(1, 2), 0);
        Check.due("later: alone, third", order.alone(2, 5, true), 3);
        Check.due("later: the first is under the third", order.under(0, 3), 1);
        Check.due("later: the second is under the third", order.under(2, 3), 1);
    }

    private static void aloneOfNoMemberIsBad() {
        for (int count : new int[] {0, 1, 16, 47}) {
            GossipOrder order = Runs.ring(count, 0);
            for (int member : Edges.NO_MEMBERS) {
                Check.due(count + " events: alone(" + member + ")", order.alone(member, 5, true), BAD);
            }
            Check.due(count + " events: alone(0)", Runs.ring(count, 0).alone(0, 5, true), count);
            Check.due(count + " events: alone(3)", Runs.ring(count, 0).alone(3, 5, true), count);
        }
    }

    private static void aloneIsFullAt48() {
        GossipOrder order = Runs.ringOfThree(47, 0);
        Check.due("the 48th: alone", order.alone(0, 0, false), 47);
        for (int member = 0; member < 4; member++) {
            Check.due("the 49th: alone(" + member + ")", order.alone(member, 0, false), FULL);
        }
        Check.due("the 49th: events", order.events(), 48);

        GossipOrder single = new GossipOrder();
        for (int n = 0; n < 48; n++) {
            Check.due("one member: alone, event " + n, single.alone(3, n, true), n);
        }
        Check.due("one member: alone, the 49th", single.alone(3, 48, true), FULL);
        Check.due("one member: a first event as the 49th", single.alone(0, 48, true), FULL);
    }

    private static void aloneIsBadBeforeItIsFull() {
        GossipOrder order = Runs.ring(48, 0);
        for (int member : Edges.NO_MEMBERS) {
            Check.due("full: alone(" + member + ")", order.alone(member, 0, false), BAD);
        }
    }

    private static void gossipMakesAnEventWithTwoParents() {
        GossipOrder order = new GossipOrder();
        order.alone(0, 0, false);
        order.alone(3, 0, false);
        order.alone(3, 0, false);
        Check.due("gossip: with the latest event", order.gossip(0, 2, 0, false), 3);
        Check.due("gossip: its other parent is under it", order.under(2, 3), 1);
        Check.due("gossip: and what is under that", order.under(1, 3), 1);
        Check.due("gossip: its own parent is under it", order.under(0, 3), 1);
        Check.due("gossip: with the latest event again", order.gossip(3, 3, 0, false), 4);
        Check.due("gossip: the own parent of the other parent is under it", order.under(0, 4), 1);
    }

    private static void gossipTakesAnyEarlierEventOfAnother() {
        GossipOrder order = new GossipOrder();
        order.alone(1, 0, false);
        order.alone(1, 0, false);
        order.alone(0, 0, false);
        Check.due("earlier: with event 0", order.gossip(0, 0, 0, false), 3);
        Check.due("earlier: the one after it is not under it", order.under(1, 3), 0);
        Check.due("earlier: with event 0 again", order.gossip(0, 0, 0, false), 4);
        Check.due("earlier: with a later one", order.gossip(0, 1, 0, false), 5);
        Check.due("earlier: it is under it", order.under(1, 5), 1);
        Check.due("earlier: with the one before again", order.gossip(0, 0, 0, false), 6);
        Check.due("earlier: what its own parent knew is under it", order.under(1, 6), 1);
    }

    private static void gossipOfNoMemberIsBad() {
        for (int count : new int[] {1, 16, 47}) {
            GossipOrder order = Runs.ring(count, 0);
            for (int member : Edges.NO_MEMBERS) {
                Check.due(count + " events: gossip(" + member + ", 0)", order.gossip(member, 0, 5, true), BAD);
            }
        }
        Check.due("gossip(0, 15)", Runs.ring(16, 0).gossip(0, 15, 5, true), 16);
        Check.due("gossip(3, 14)", Runs.ring(16, 0).gossip(3, 14, 5, true), 16);
    }

    private static void gossipWithNoEventIsBad() {
        for (int count : new int[] {0, 1, 16, 47}) {
            GossipOrder order = Runs.ring(count, 0);
            for (int other : Edges.noEvents(count)) {
                Check.due(count + " events: gossip(0, " + other + ")", order.gossip(0, other, 5, true), BAD);
            }
        }
        Check.due("gossip with the first event", Runs.ring(16, 0).gossip(1, 0, 5, true), 16);
        Check.due("gossip with the last event", Runs.ring(16, 0).gossip(1, 15, 5, true), 16);
    }

    private static void gossipWithAnEventOfItsOwnIsBad() {
        GossipOrder order = Runs.ring(47, 0);
        for (int other = 0; other < 47; other++) {
            Check.due("own: gossip(" + other % 4 + ", " + other + ")", order.gossip(other % 4, other, 5, true), BAD);
        }
        Check.due("own: a sole event", Runs.ring(1, 0).gossip(0, 0, 5, true), BAD);
    }

    private static void gossipOfAMemberWithoutEventsIsNone() {
        GossipOrder order = new GossipOrder();
        order.alone(1, 0, false);
        Check.due("none so far: gossip(0, 0)", order.gossip(0, 0, 5, true), NONE);
        Check.due("none so far: gossip(2, 0)", order.gossip(2, 0, 5, true), NONE);
        Check.due("none so far: gossip(3, 0)", order.gossip(3, 0, 5, true), NONE);
        order.alone(3, 0, false);
        Check.due("one so far: gossip(3, 0)", order.gossip(3, 0, 5, true), 2);
        Check.due("still none: gossip(0, 0)", order.gossip(0, 0, 5, true), NONE);
    }

    private static void gossipIsFullAt48() {
        GossipOrder order = Runs.ring(47, 0);
        Check.due("the 48th: gossip", order.gossip(3, 46, 0, false), 47);
        for (int member = 0; member < 4; member++) {
            int other = (member + 1) % 4;
            String call = "gossip(" + member + ", " + other + ")";
            Check.due("the 49th: " + call, order.gossip(member, other, 0, false), FULL);
        }
        Check.due("the 49th: gossip with the 48th", order.gossip(0, 47, 0, false), FULL);
        Check.due("the 49th: events", order.events(), 48);
    }

    private static void gossipIsBadBeforeItIsNone() {
        GossipOrder order = Runs.ringOfThree(16, 0);
        for (int other : Edges.noEvents(16)) {
            Check.due("none so far: gossip(3, " + other + ")", order.gossip(3, other, 0, false), BAD);
        }
        Check.due("no events: gossip(3, 0)", new GossipOrder().gossip(3, 0, 0, false), BAD);
    }

    private static void gossipIsBadBeforeItIsFull() {
        GossipOrder order = Runs.ringOfThree(48, 0);
        for (int member : Edges.NO_MEMBERS) {
            Check.due("full: gossip(" + member + ", 0)", order.gossip(member, 0, 0, false), BAD);
        }
        for (int other : Edges.noEvents(48)) {
            Check.due("full: gossip(0, " + other + ")", order.gossip(0, other, 0, false), BAD);
            Check.due("full: gossip(3, " + other + ")", order.gossip(3, other, 0, false), BAD);
        }
        for (int other = 0; other < 48; other++) {
            Check.due("full: gossip with own " + other, order.gossip(other % 3, other, 0, false), BAD);
        }
    }

    private static void gossipIsNoneBeforeItIsFull() {
        GossipOrder order = Runs.ringOfThree(48, 0);
        Check.due("full: gossip(3, 0)", order.gossip(3, 0, 0, false), NONE);
        Check.due("full: gossip(3, 47)", order.gossip(3, 47, 0, false), NONE);
    }

    private static void eventsCountsFromNoneToAll() {
        GossipOrder order = new GossipOrder();
        for (int n = 0; n < 48; n++) {
            Check.due("events before " + n, order.events(), n);
            Runs.stepRing(order, 4, n, 0);
        }
        Check.due("events of all", order.events(), 48);
    }

    private static void latestFollowsEachMember() {
        GossipOrder order = new GossipOrder();
        for (int n = 0; n < 48; n++) {
            Runs.stepRing(order, 4, n, 0);
            for (int member = 0; member < 4; member++) {
                int due = member > n ? NONE : n - (n - member) % 4;
                Check.due("latest(" + member + ") after " + n, order.latest(member), due);
            }
        }
    }

    private static void latestOfNoMemberIsBad() {
        for (int count : new int[] {0, 1, 16, 48}) {
            GossipOrder order = Runs.ring(count, 0);
            for (int member : Edges.NO_MEMBERS) {
                Check.due(count + " events: latest(" + member + ")", order.latest(member), BAD);
            }
        }
    }

    private static void latestOfAMemberWithoutEventsIsNone() {
        GossipOrder order = new GossipOrder();
        order.alone(1, 0, false);
        Check.due("none so far: latest(0)", order.latest(0), NONE);
        Check.due("none so far: latest(2)", order.latest(2), NONE);
        Check.due("none so far: latest(3)", order.latest(3), NONE);
        Check.due("full: latest(3)", Runs.ringOfThree(48, 0).latest(3), NONE);
    }
}
