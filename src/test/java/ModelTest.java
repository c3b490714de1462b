import java.util.List;
import java.util.Random;

/** All promises: runs of many shapes, each answer compared with the one that the model works out. */
final class ModelTest {
    private static final int RUNS = 240;

    private static int notFamous;
    private static int movedDeciders;
    private static int gapsInRounds;
    private static int sharedFinalTimes;
    private static int coinVotes;
    private static int undecidingMajorities;
    private static final int[] famousInSettled = new int[5];

    private ModelTest() {
    }

    public static void main(String[] args) {
        for (int run = 0; run < RUNS; run++) {
            play(run, new Random(1000 + run));
        }
        checkThatTheEdgesWereMet();
        Check.end();
    }

    private static void play(int run, Random random) {
        GossipOrder order = new GossipOrder();
        Model model = new Model();
        int[][] opening = Runs.RARE[run / 2 % Runs.RARE.length];
        int start = run % 2 == 0 ? opening.length - random.nextInt(20) : 0;
        int silent = run % 3 == 0 ? random.nextInt(4) : -1;
        int events = run % 4 == 0 ? 50 : 20 + random.nextInt(29);
        for (int call = 0; call < events; call++) {
            int[] deciders = deciders(order);
            String what = "run " + run + ", call " + call;
            refuse(what, order, model, random);
            int time = time(random, call, run);
            boolean coin = random.nextBoolean();
            int[] next = call < start ? opening[call] : choose(order, random, silent, call);
            int due = next[1] < 0 ? model.alone(next[0], time, coin) : model.gossip(next[0], next[1], time, coin);
            Check.due(what, Runs.step(order, next, time, coin), due);
            compare(what, order, model);
            countMoved(order, deciders);
        }
        comparePairs("run " + run, order, model);
        countEdges(order, model);
    }

    private static int time(Random random, int call, int run) {
        if (run % 5 == 0) {
            return random.nextInt();
        }
        return run % 5 == 1 ? random.nextInt(3) - 1 : call * 3 + random.nextInt(9);
    }

    /** A silent member makes its events rarely, so that it comes late to its rounds. */
    private static int[] choose(GossipOrder order, Random random, int silent, int call) {
        int member = random.nextInt(4);
        if (member == silent && random.nextInt(8) != 0) {
            member = (member + 1 + random.nextInt(3)) % 4;
        }
        int from = (member + 1 + random.nextInt(3)) % 4;
        int other = order.latest(from);
        if (random.nextInt(10) == 0 && call > 0) {
            other = random.nextInt(call);
        }
        boolean alone = order.latest(member) < 0 || other < 0 || random.nextInt(20) == 0;
        return new int[] {member, alone ? -1 : other};
    }

    private static void refuse(String what, GossipOrder order, Model model, Random random) {
        int wrong = random.nextBoolean() ? 4 + random.nextInt(9) : -1 - random.nextInt(9);
        Check.due(what + ": alone of no member", order.alone(wrong, 5, true), model.alone(wrong, 5, true));
        int count = order.events();
        Check.due(what + ": gossip of no member", order.gossip(wrong, 0, 5, true), model.gossip(wrong, 0, 5, true));
        Check.due(what + ": gossip of no event", order.gossip(0, count, 5, true), model.gossip(0, count, 5, true));
        for (int member = 0; member < 4; member++) {
            int own = order.latest(member);
            int from = count == 0 ? 0 : random.nextInt(count);
            boolean refused = own == GossipOrder.NONE || count == 48;
            int other = refused ? from : own;
            String call = what + ": gossip(" + member + ", " + other + ")";
            Check.due(call, order.gossip(member, other, 5, true), model.gossip(member, other, 5, true));
        }
    }

    private static void compare(String what, GossipOrder order, Model model) {
        int count = model.events.size();
        Check.due(what + ": events()", order.events(), count);
        for (int member = -1; member <= 4; member++) {
            Check.due(what + ": latest(" + member + ")", order.latest(member), model.latest(member));
        }
        for (int x = -1; x <= count; x++) {
            Check.due(what + ": round(" + x + ")", order.round(x), model.round(x));
            Check.due(what + ": witness(" + x + ")", order.witness(x), model.witness(x));
            Check.due(what + ": fame(" + x + ")", order.fame(x), model.fame(x));
            Check.due(what + ": decider(" + x + ")", order.decider(x), model.decider(x));
        }
        for (int round = -1; round <= 14; round++) {
            Check.due(what + ": witnesses(" + round + ")", order.witnesses(round), model.witnesses(round));
        }
        Check.due(what + ": settled()", order.settled(), model.settled());
        compareOrder(what, order, model.order(), count);
    }

    private static void compareOrder(String what, GossipOrder order, List<Model.Place> due, int count) {
        boolean[] received = new boolean[count];
        int digest = 0;
        Check.due(what + ": ordered()", order.ordered(), due.size());
        for (int k = 0; k < due.size(); k++) {
            Model.Place place = due.get(k);
            int x = place.event().number;
            received[x] = true;
            digest += (k + 1) * (x + 1);
            Check.due(what + ": orderAt(" + k + ")", order.orderAt(k), x);
            Check.due(what + ": placeOf(" + x + ")", order.placeOf(x), k);
            Check.due(what + ": received(" + x + ")", order.received(x), place.received());
            Check.due(what + ": finalTime(" + x + ")", order.finalTime(x), place.finalTime());
        }
        Check.due(what + ": orderAt behind the end", order.orderAt(due.size()), GossipOrder.NONE);
        Check.due(what + ": digest()", order.digest(), digest);
        for (int x = 0; x < count; x++) {
            if (!received[x]) {
                Check.due(what + ": placeOf(" + x + ")", order.placeOf(x), GossipOrder.NONE);
                Check.due(what + ": received(" + x + ")", order.received(x), GossipOrder.NONE);
                Check.due(what + ": finalTime(" + x + ")", order.finalTime(x), 0);
            }
        }
    }

    private static void comparePairs(String what, GossipOrder order, Model model) {
        int count = model.events.size();
        for (int x = -1; x <= count; x++) {
            for (int y = -1; y <= count; y++) {
                String pair = "(" + x + ", " + y + ")";
                Check.due(what + ": under" + pair, order.under(x, y), model.under(x, y));
                Check.due(what + ": wellUnder" + pair, order.wellUnder(x, y), model.wellUnder(x, y));
            }
        }
    }

    private static int[] deciders(GossipOrder order) {
        int[] found = new int[order.events()];
        for (int x = 0; x < found.length; x++) {
            found[x] = order.decider(x);
        }
        return found;
    }

    private static void countMoved(GossipOrder order, int[] before) {
        for (int x = 0; x < before.length; x++) {
            if (before[x] >= 0 && before[x] != order.decider(x)) {
                movedDeciders++;
            }
        }
    }

    private static void countEdges(GossipOrder order, Model model) {
        coinVotes += model.coinVotes;
        undecidingMajorities += model.undecidingMajorities;
        int[] famous = new int[50];
        for (Model.Event event : model.events) {
            notFamous += order.fame(event.number) == 1 ? 1 : 0;
            famous[event.round] += order.fame(event.number) == 2 ? 1 : 0;
            gapsInRounds += event.own != null && event.round > event.own.round + 1 ? 1 : 0;
        }
        for (int round = 1; round <= order.settled(); round++) {
            famousInSettled[famous[round]]++;
        }
        for (int k = 1; k < order.ordered(); k++) {
            int a = order.orderAt(k - 1);
            int b = order.orderAt(k);
            boolean tie = order.received(a) == order.received(b) && order.finalTime(a) == order.finalTime(b);
            sharedFinalTimes += tie ? 1 : 0;
        }
    }

    /** The runs are worth nothing if they pass the rare cases by. */
    private static void checkThatTheEdgesWereMet() {
        System.out.println("not famous " + notFamous + ", moved deciders " + movedDeciders
                + ", gaps in rounds " + gapsInRounds + ", shared final times " + sharedFinalTimes
                + ", coin votes " + coinVotes + ", undeciding majorities " + undecidingMajorities
                + ", settled rounds with 1 .. 4 famous " + famousInSettled[1] + " " + famousInSettled[2]
                + " " + famousInSettled[3] + " " + famousInSettled[4]);
        Check.holds("some witnesses are not famous", notFamous > 0);
        Check.holds("some deciders move", movedDeciders > 0);
        Check.holds("some members skip a round", gapsInRounds > 0);
        Check.holds("some events share a final time", sharedFinalTimes > 0);
        Check.holds("some votes are coins", coinVotes > 0);
        Check.holds("some majorities do not decide", undecidingMajorities > 0);
        Check.holds("some settled rounds have three famous witnesses", famousInSettled[3] > 0);
        Check.holds("some settled rounds have four famous witnesses", famousInSettled[4] > 0);
    }
}
