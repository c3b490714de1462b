import java.util.ArrayList;
import java.util.List;
import java.util.Random;

/** All promises: runs of many shapes, each answer compared with the one that the model works out. */
final class ModelTest {
    private static final int RUNS = 240;

    private static int notFamous;
    private static int movedDeciders;
    private static int gapsInRounds;
    private static int sharedFinalTimes;
    private static int coinVotes;
    private static int undecidingMajorities;
    private static final int[] famousInSettled = new int[5];

    private ModelTest() {
    }

    public static void main(String[] args) {
        for (int run = 0; run < RUNS; run++) {
            play(run, new Random(1000 + run));
        }
        checkThatTheEdgesWereMet();
        Check.end();
    }

    private static void play(int run, Random random) {
        String what = "run " + run;
        Model model = new Model();
        List<Call> calls = new ArrayList<>();
        int[] deciders = {};
        int[][] opening = Runs.RARE[run / 2 % Runs.RARE.length];
        int start = run % 2 == 0 ? opening.length - random.nextInt(20) : 0;
        int silent = run % 3 == 0 ? random.nextInt(4) : -1;
        int events = run % 4 == 0 ? 50 : 20 + random.nextInt(29);
        for (int n = 0; n < events; n++) {
            add(calls, model, refused(model, random));
            int time = time(random, n, run);
            int[] next = n < start ? opening[n] : choose(model, random, silent);
            add(calls, model, new Call(next[1] < 0, next[0], next[1], time, random.nextBoolean()));
            Subject order = new Subject(calls.size(), () -> replay(what, calls));
            compare(what + ", event " + n, order, model);
            countMoved(order, deciders);
            deciders = deciders(order, model);
        }
        Subject order = new Subject(calls.size(), () -> replay(what, calls));
        comparePairs(what, order, model);
        countEdges(order, model);
    }

    private static final class Call {
        final boolean alone;
        final int member;
        final int other;
        final int time;
        final boolean coin;
        int due;

        Call(boolean alone, int member, int other, int time, boolean coin) {
            this.alone = alone;
            this.member = member;
            this.other = other;
            this.time = time;
            this.coin = coin;
        }
    }

    private static void add(List<Call> calls, Model model, Call call) {
        call.due = call.alone
                ? model.alone(call.member, call.time, call.coin)
                : model.gossip(call.member, call.other, call.time, call.coin);
        calls.add(call);
    }

    private static GossipOrder replay(String what, List<Call> calls) {
        GossipOrder order = new GossipOrder();
        for (Call call : calls) {
            int answer = call.alone
                    ? order.alone(call.member, call.time, call.coin)
                    : order.gossip(call.member, call.other, call.time, call.coin);
            String name = call.alone ? "alone(" + call.member : "gossip(" + call.member + ", " + call.other;
            Check.due(what + ", call " + calls.indexOf(call) + ": " + name + ")", answer, call.due);
        }
        return order;
    }

    private static int time(Random random, int call, int run) {
        if (run % 5 == 0) {
            return random.nextInt();
        }
        return run % 5 == 1 ? random.nextInt(3) - 1 : call * 3 + random.nextInt(9);
    }

    /** A silent member makes its events rarely, so that it comes late to its rounds. */
    private static int[] choose(Model model, Random random, int silent) {
        int member = random.nextInt(4);
        if (member == silent && random.nextInt(8) != 0) {
            member = (member + 1 + random.nextInt(3)) % 4;
        }
        int from = (member + 1 + random.nextInt(3)) % 4;
        int other = model.latest(from);
        if (random.nextInt(10) == 0 && !model.events.isEmpty()) {
            other = random.nextInt(model.events.size());
        }
        boolean alone = model.latest(member) < 0 || other < 0 || random.nextInt(20) == 0;
        return new int[] {member, alone ? -1 : other};
    }

    private static Call refused(Model model, Random random) {
        int count = model.events.size();
        int member = random.nextInt(4);
        int wrong = random.nextBoolean() ? 4 + random.nextInt(9) : -1 - random.nextInt(9);
        int own = model.latest(member);
        boolean ready = own != Model.NONE && count < 48;
        int other = ready || count == 0 ? own : random.nextInt(count);
        return switch (random.nextInt(4)) {
            case 0 -> new Call(true, wrong, 0, 5, true);
            case 1 -> new Call(false, wrong, count / 2, 5, true);
            case 2 -> new Call(false, member, random.nextBoolean() ? count : -1, 5, true);
            default -> new Call(false, member, other, 5, true);
        };
    }

    private static void compare(String what, Subject order, Model model) {
        int count = model.events.size();
        Check.due(what + ": events()", order.ask().events(), count);
        for (int member = -1; member <= 4; member++) {
            Check.due(what + ": latest(" + member + ")", order.ask().latest(member), model.latest(member));
        }
        for (int x = -1; x <= count; x++) {
            Check.due(what + ": round(" + x + ")", order.ask().round(x), model.round(x));
            Check.due(what + ": witness(" + x + ")", order.ask().witness(x), model.witness(x));
            Check.due(what + ": fame(" + x + ")", order.ask().fame(x), model.fame(x));
            Check.due(what + ": decider(" + x + ")", order.ask().decider(x), model.decider(x));
        }
        for (int round = -1; round <= 14; round++) {
            Check.due(what + ": witnesses(" + round + ")", order.ask().witnesses(round), model.witnesses(round));
        }
        Check.due(what + ": settled()", order.ask().settled(), model.settled());
        compareOrder(what, order, model.order(), count);
    }

    private static void compareOrder(String what, Subject order, List<Model.Place> due, int count) {
        boolean[] received = new boolean[count];
        int digest = 0;
        Check.due(what + ": ordered()", order.ask().ordered(), due.size());
        for (int k = 0; k < due.size(); k++) {
            Model.Place place = due.get(k);
            int x = place.event().number;
            received[x] = true;
            digest += (k + 1) * (x + 1);
            Check.due(what + ": orderAt(" + k + ")", order.ask().orderAt(k), x);
            Check.due(what + ": placeOf(" + x + ")", order.ask().placeOf(x), k);
            Check.due(what + ": received(" + x + ")", order.ask().received(x), place.received());
            Check.due(what + ": finalTime(" + x + ")", order.ask().finalTime(x), place.finalTime());
        }
        Check.due(what + ": orderAt behind the end", order.ask().orderAt(due.size()), GossipOrder.NONE);
        Check.due(what + ": digest()", order.ask().digest(), digest);
        for (int x = 0; x < count; x++) {
            if (!received[x]) {
                Check.due(what + ": placeOf(" + x + ")", order.ask().placeOf(x), GossipOrder.NONE);
                Check.due(what + ": received(" + x + ")", order.ask().received(x), GossipOrder.NONE);
                Check.due(what + ": finalTime(" + x + ")", order.ask().finalTime(x), 0);
            }
        }
    }

    private static void comparePairs(String what, Subject order, Model model) {
        int count = model.events.size();
        for (int x = -1; x <= count; x++) {
            for (int y = -1; y <= count; y++) {
                String pair = "(" + x + ", " + y + ")";
                Check.due(what + ": under" + pair, order.ask().under(x, y), model.under(x, y));
                Check.due(what + ": wellUnder" + pair, order.ask().wellUnder(x, y), model.wellUnder(x, y));
            }
        }
    }

    private static int[] deciders(Subject order, Model model) {
        int[] found = new int[model.events.size()];
        for (int x = 0; x < found.length; x++) {
            found[x] = order.ask().decider(x);
        }
        return found;
    }

    private static void countMoved(Subject order, int[] before) {
        for (int x = 0; x < before.length; x++) {
            if (before[x] >= 0 && before[x] != order.ask().decider(x)) {
                movedDeciders++;
            }
        }
    }

    private static void countEdges(Subject order, Model model) {
        coinVotes += model.coinVotes;
        undecidingMajorities += model.undecidingMajorities;
        int[] famous = new int[50];
        for (Model.Event event : model.events) {
            notFamous += order.ask().fame(event.number) == 1 ? 1 : 0;
            famous[event.round] += order.ask().fame(event.number) == 2 ? 1 : 0;
            gapsInRounds += event.own != null && event.round > event.own.round + 1 ? 1 : 0;
        }
        for (int round = 1; round <= order.ask().settled(); round++) {
            famousInSettled[famous[round]]++;
        }
        for (int k = 1; k < order.ask().ordered(); k++) {
            int a = order.ask().orderAt(k - 1);
            int b = order.ask().orderAt(k);
            boolean tie = order.ask().received(a) == order.ask().received(b)
                    && order.ask().finalTime(a) == order.ask().finalTime(b);
            sharedFinalTimes += tie ? 1 : 0;
        }
    }

    /** The runs are worth nothing if they pass the rare cases by. */
    private static void checkThatTheEdgesWereMet() {
        System.out.println("not famous " + notFamous + ", moved deciders " + movedDeciders
                + ", gaps in rounds " + gapsInRounds + ", shared final times " + sharedFinalTimes
                + ", coin votes " + coinVotes + ", undeciding majorities " + undecidingMajorities
                + ", settled rounds with 1 .. 4 famous " + famousInSettled[1] + " " + famousInSettled[2]
                + " " + famousInSettled[3] + " " + famousInSettled[4]);
        Check.holds("some witnesses are not famous", notFamous > 0);
        Check.holds("some deciders move", movedDeciders > 0);
        Check.holds("some members skip a round", gapsInRounds > 0);
        Check.holds("some events share a final time", sharedFinalTimes > 0);
        Check.holds("some votes are coins", coinVotes > 0);
        Check.holds("some majorities do not decide", undecidingMajorities > 0);
        Check.holds("some settled rounds have three famous witnesses", famousInSettled[3] > 0);
        Check.holds("some settled rounds have four famous witnesses", famousInSettled[4] > 0);
    }
}
