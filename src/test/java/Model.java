import java.util.ArrayList;
import java.util.Comparator;
import java.util.HashMap;
import java.util.HashSet;
import java.util.List;
import java.util.Map;
import java.util.Set;

/** The document read word by word, with objects and recursion: every question is worked out from the events alone. */
final class Model {
    static final int BAD = -1;
    static final int NONE = -2;
    static final int FULL = -3;

    static final class Event {
        int number;
        int maker;
        int time;
        boolean coin;
        Event own;
        Event other;
        int round;
        final Set<Event> under = new HashSet<>();

        boolean isWitness() {
            return own == null || own.round < round;
        }
    }

    final List<Event> events = new ArrayList<>();
    /** How often a coin was a vote, and how often three or more of a kind did not decide because coins were due. */
    int coinVotes;
    int undecidingMajorities;

    int alone(int member, int time, boolean coin) {
        if (member < 0 || member > 3) {
            return BAD;
        }
        if (events.size() == 48) {
            return FULL;
        }
        return add(member, null, time, coin);
    }

    int gossip(int member, int other, int time, boolean coin) {
        if (member < 0 || member > 3 || !good(other) || events.get(other).maker == member) {
            return BAD;
        }
        if (latest(member) == NONE) {
            return NONE;
        }
        if (events.size() == 48) {
            return FULL;
        }
        return add(member, events.get(other), time, coin);
    }

    private int add(int member, Event other, int time, boolean coin) {
        Event event = new Event();
        event.number = events.size();
        event.maker = member;
        event.time = time;
        event.coin = coin;
        event.own = latest(member) == NONE ? null : events.get(latest(member));
        event.other = other;
        event.under.add(event);
        if (event.own != null) {
            event.under.addAll(event.own.under);
        }
        if (other != null) {
            event.under.addAll(other.under);
        }
        event.round = roundFor(event);
        events.add(event);
        return event.number;
    }

    private int roundFor(Event event) {
        if (event.own == null && event.other == null) {
            return 1;
        }
        int r = Math.max(event.own == null ? 0 : event.own.round, event.other == null ? 0 : event.other.round);
        Set<Integer> members = new HashSet<>();
        for (Event witness : witnessesOf(r)) {
            if (isWellUnder(witness, event)) {
                members.add(witness.maker);
            }
        }
        return members.size() >= 3 ? r + 1 : r;
    }

    private boolean isUnder(Event x, Event y) {
        return y.under.contains(x);
    }

    private boolean isWellUnder(Event x, Event y) {
        Set<Integer> members = new HashSet<>();
        for (Event z : y.under) {
            if (isUnder(x, z)) {
                members.add(z.maker);
            }
        }
        return members.size() >= 3;
    }

    private List<Event> witnessesOf(int round) {
        List<Event> found = new ArrayList<>();
        for (Event event : events) {
            if (event.isWitness() && event.round == round) {
                found.add(event);
            }
        }
        return found;
    }

    private int greatestRound() {
        return events.stream().mapToInt(e -> e.round).max().orElse(0);
    }

    private record Tally(boolean v, int n) {
    }

    private Tally tally(Event y, Event x, Map<Event, Boolean> votes) {
        int yes = 0;
        int no = 0;
        for (Event voter : witnessesOf(y.round - 1)) {
            if (isWellUnder(voter, y)) {
                if (vote(voter, x, votes)) {
                    yes++;
                } else {
                    no++;
                }
            }
        }
        return yes >= no ? new Tally(true, yes) : new Tally(false, no);
    }

    private boolean vote(Event y, Event x, Map<Event, Boolean> votes) {
        if (y.round == x.round + 1) {
            return isUnder(x, y);
        }
        if (!votes.containsKey(y)) {
            Tally tally = tally(y, x, votes);
            boolean byCoin = (y.round - x.round) % 5 == 0 && tally.n < 3;
            votes.put(y, byCoin ? y.coin : tally.v);
        }
        return votes.get(y);
    }

    private record Decision(Event decider, boolean famous) {
    }

    private Decision decision(Event x) {
        Map<Event, Boolean> votes = new HashMap<>();
        for (int round = x.round + 2; round <= greatestRound(); round++) {
            boolean coins = (round - x.round) % 5 == 0;
            for (Event y : witnessesOf(round)) {
                Tally tally = tally(y, x, votes);
                if (tally.n >= 3 && !coins) {
                    return new Decision(y, tally.v);
                }
                coinVotes += coins && tally.n < 3 ? 1 : 0;
                undecidingMajorities += coins && tally.n >= 3 ? 1 : 0;
            }
        }
        return null;
    }

    private boolean isFamous(Event x) {
        Decision decision = decision(x);
        return decision != null && decision.famous;
    }

    private List<Event> famousOf(int round) {
        return witnessesOf(round).stream().filter(this::isFamous).toList();
    }

    private boolean good(int x) {
        return x >= 0 && x < events.size();
    }

    int latest(int member) {
        if (member < 0 || member > 3) {
            return BAD;
        }
        return events.stream().filter(e -> e.maker == member).mapToInt(e -> e.number).max().orElse(NONE);
    }

    int under(int x, int y) {
        if (!good(x) || !good(y)) {
            return BAD;
        }
        return isUnder(events.get(x), events.get(y)) ? 1 : 0;
    }

    int wellUnder(int x, int y) {
        if (!good(x) || !good(y)) {
            return BAD;
        }
        return isWellUnder(events.get(x), events.get(y)) ? 1 : 0;
    }

    int round(int x) {
        return good(x) ? events.get(x).round : BAD;
    }

    int witness(int x) {
        if (!good(x)) {
            return BAD;
        }
        return events.get(x).isWitness() ? 1 : 0;
    }

    int witnesses(int round) {
        return witnessesOf(round).size();
    }

    int fame(int x) {
        if (!good(x)) {
            return BAD;
        }
        if (!events.get(x).isWitness()) {
            return NONE;
        }
        Decision decision = decision(events.get(x));
        if (decision == null) {
            return 0;
        }
        return decision.famous ? 2 : 1;
    }

    int decider(int x) {
        if (!good(x)) {
            return BAD;
        }
        if (!events.get(x).isWitness()) {
            return NONE;
        }
        Decision decision = decision(events.get(x));
        return decision == null ? NONE : decision.decider.number;
    }

    int settled() {
        int round = 1;
        while (round < greatestRound()
                && witnessesOf(round).stream().allMatch(w -> decision(w) != null)
                && !famousOf(round).isEmpty()) {
            round++;
        }
        return round - 1;
    }

    /** The received events in their order, with what they were ordered by. */
    record Place(Event event, int received, int finalTime) {
    }

    List<Place> order() {
        List<Place> places = new ArrayList<>();
        Set<Event> done = new HashSet<>();
        int settled = settled();
        for (int round = 1; round <= settled; round++) {
            List<Event> famous = famousOf(round);
            for (Event x : events) {
                if (!done.contains(x) && famous.stream().allMatch(w -> isUnder(x, w))) {
                    done.add(x);
                    places.add(new Place(x, round, finalTimeOf(x, famous)));
                }
            }
        }
        places.sort(Comparator.comparingInt(Place::received)
                .thenComparingInt(Place::finalTime)
                .thenComparingInt(p -> p.event.number));
        return places;
    }

    private int finalTimeOf(Event x, List<Event> famous) {
        List<Integer> times = new ArrayList<>();
        for (Event w : famous) {
            times.add(events.stream()
                    .filter(z -> z.maker == w.maker && isUnder(z, w) && isUnder(x, z))
                    .findFirst().orElseThrow().time);
        }
        times.sort(Comparator.naturalOrder());
        return times.get(times.size() / 2);
    }
}
