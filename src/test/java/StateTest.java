import java.util.ArrayList;
import java.util.List;
import java.util.Map;
import java.util.Random;

/** What holds of all calls: refused ones and questions change nothing, all 512 calls count, none throws. */
final class StateTest {
    private static final int ALONE = Integer.MAX_VALUE;
    /** In no order, so that a time that was changed is seen in the order of the events. */
    private static final int[] TIMES = {8, 3, 12, 1, 9, 4, 14, 6, 2, 11, 7};
    private static final Edges.Question NOTHING = (order, x) -> 0;

    private record Refusal(int member, int other, int due) {
        int call(GossipOrder order, int time) {
            return other == ALONE ? order.alone(member, time, true) : order.gossip(member, other, time, true);
        }

        @Override
        public String toString() {
            return other == ALONE ? "alone(" + member + ")" : "gossip(" + member + ", " + other + ")";
        }
    }

    private record Asked(String name, Edges.Question question) {
    }

    private static final List<Asked> QUESTIONS = List.of(
            new Asked("events", (order, x) -> order.events()),
            new Asked("latest", GossipOrder::latest),
            new Asked("under", (order, x) -> order.under(x, order.events() - 1)),
            new Asked("wellUnder", (order, x) -> order.wellUnder(x, order.events() - 1)),
            new Asked("round", GossipOrder::round),
            new Asked("witness", GossipOrder::witness),
            new Asked("witnesses", GossipOrder::witnesses),
            new Asked("fame", GossipOrder::fame),
            new Asked("decider", GossipOrder::decider),
            new Asked("settled", (order, x) -> order.settled()),
            new Asked("received", GossipOrder::received),
            new Asked("finalTime", GossipOrder::finalTime),
            new Asked("ordered", (order, x) -> order.ordered()),
            new Asked("orderAt", GossipOrder::orderAt),
            new Asked("placeOf", GossipOrder::placeOf),
            new Asked("digest", (order, x) -> order.digest()));

    private static final List<Asked> REFUSED = List.of(
            new Asked("alone of no member", (order, x) -> order.alone(4, 5, false)),
            new Asked("gossip of no member", (order, x) -> order.gossip(-1, 0, 5, false)),
            new Asked("gossip with no event", (order, x) -> order.gossip(0, 48, 5, false)),
            new Asked("gossip with an own event", (order, x) -> order.gossip(2, order.latest(2), 5, false)));

    private StateTest() {
    }

    public static void main(String[] args) {
        refusedCallsChangeNothing();
        refusedCallsAllTheTimeChangeNothing();
        questionsAllTheTimeChangeNothing();
        the512thCallAnswers();
        noCallThrows();
        Check.end();
    }

    /** All the ways to be refused in the ring of three, where member 3 has made no event. */
    private static List<Refusal> refusals(int count) {
        List<Refusal> all = new ArrayList<>();
        for (int member : new int[] {-1, 4}) {
            all.add(new Refusal(member, ALONE, GossipOrder.BAD));
            all.add(new Refusal(member, 0, GossipOrder.BAD));
        }
        all.add(new Refusal(0, -1, GossipOrder.BAD));
        all.add(new Refusal(0, count, GossipOrder.BAD));
        if (count > 0) {
            all.add(new Refusal(0, 0, GossipOrder.BAD));
            all.add(new Refusal(3, count - 1, GossipOrder.NONE));
        }
        if (count == 48) {
            all.add(new Refusal(0, ALONE, GossipOrder.FULL));
            all.add(new Refusal(3, ALONE, GossipOrder.FULL));
            all.add(new Refusal(0, 47, GossipOrder.FULL));
        }
        return all;
    }

    private static void refusedCallsChangeNothing() {
        for (int count : new int[] {0, 1, 5, 14, 47, 48}) {
            Map<String, Integer> then = Answers.of(count, new Subject(count, () -> Runs.ringOfThree(count, TIMES)));
            Map<String, Integer> atLast = Answers.of(48, new Subject(48, () -> Runs.ringOfThree(48, TIMES)));
            for (Refusal refusal : refusals(count)) {
                for (int time : new int[] {-77, 77}) {
                    String what = count + " events, refused " + refusal + ": ";
                    Subject refused = new Subject(count + 2, () -> refuse(refusal, time, count, count));
                    Answers.compare(what, Answers.of(count, refused), then);
                    Subject goneOn = new Subject(50, () -> refuse(refusal, time, count, 48));
                    Answers.compare(what + "then, at last, ", Answers.of(48, goneOn), atLast);
                }
            }
        }
    }

    /** A ring of three that is refused twice when there are so many events. */
    private static GossipOrder refuse(Refusal refusal, int time, int count, int events) {
        GossipOrder order = Runs.ringOfThree(count, TIMES);
        Check.due(count + " events: " + refusal, refusal.call(order, time), refusal.due());
        Check.due(count + " events: " + refusal + " again", refusal.call(order, time), refusal.due());
        for (int n = count; n < events; n++) {
            Runs.stepRing(order, 3, n, TIMES[n % TIMES.length]);
        }
        return order;
    }

    private static void refusedCallsAllTheTimeChangeNothing() {
        for (int[][] run : Runs.RARE) {
            changeNothing(run, 1, REFUSED);
        }
    }

    private static void questionsAllTheTimeChangeNothing() {
        for (int[][] run : Runs.RARE) {
            changeNothing(run, 1, QUESTIONS);
            changeNothing(run, -1, QUESTIONS);
        }
    }

    /** What is due is asked of objects that are asked nothing else: with 511 calls used, each has but one left. */
    private static void changeNothing(int[][] run, int sign, List<Asked> calls) {
        int events = run.length;
        Map<String, Integer> due = Answers.of(events, new Subject(511, () -> playAndAsk(run, sign, NOTHING)));
        for (Asked asked : calls) {
            Subject subject = new Subject(9 * events, () -> playAndAsk(run, sign, asked.question()));
            String what = events + " events, " + asked.name() + " all the time: ";
            Answers.compare(what, Answers.of(events, subject), due);
        }
    }

    /** Asks four times after each event, of numbers good and not; that may be two calls each. */
    private static GossipOrder playAndAsk(int[][] run, int sign, Edges.Question question) {
        GossipOrder order = new GossipOrder();
        for (int n = 0; n < run.length; n++) {
            Runs.step(order, run[n], sign * TIMES[n % TIMES.length], true);
            for (int x : new int[] {-1, n / 2, n, n + 1}) {
                question.ask(order, x);
            }
        }
        return order;
    }

    private static void the512thCallAnswers() {
        GossipOrder early = Runs.ring(48, 9);
        for (int call = 49; call <= 512; call++) {
            Check.due("call " + call + ": digest", early.digest(), 22140);
        }
        GossipOrder late = new GossipOrder();
        for (int call = 1; call <= 464; call++) {
            Check.due("call " + call + ": events", late.events(), 0);
        }
        for (int call = 465; call <= 512; call++) {
            Check.due("call " + call + ": a making", Runs.stepRing(late, 4, call - 465, 9), call - 465);
        }
    }

    /** An exception ends this test; what is answered is tested elsewhere. */
    private static void noCallThrows() {
        Random random = new Random(7);
        for (int run = 0; run < 40; run++) {
            GossipOrder order = new GossipOrder();
            for (int call = 0; call < 1000; call++) {
                int member = wild(random, 4);
                int other = wild(random, 48);
                order.alone(member, random.nextInt(), random.nextBoolean());
                order.gossip(member, other, random.nextInt(), random.nextBoolean());
                order.under(other, wild(random, 48));
                order.wellUnder(other, wild(random, 48));
                for (Asked asked : QUESTIONS) {
                    asked.question().ask(order, wild(random, 48));
                }
            }
        }
    }

    private static int wild(Random random, int end) {
        return random.nextInt(4) == 0 ? random.nextInt() : random.nextInt(end + 2) - 1;
    }
}
