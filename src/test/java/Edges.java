/** Arguments at and beyond the edges. */
final class Edges {
    static final int LEAST = Integer.MIN_VALUE;
    static final int MOST = Integer.MAX_VALUE;
    static final int[] NO_MEMBERS = {-1, -2, -4, 4, 5, 8, 48, 64, LEAST, LEAST + 1, MOST};

    interface Question {
        int ask(GossipOrder order, int x);
    }

    private Edges() {
    }

    /** Numbers of no event, if there are so many. The ones with 64 would be good if only six bits were looked at. */
    static int[] noEvents(int count) {
        return new int[] {-1, -2, -3, -64, count, count + 1, 48, 49, 63, 64, 64 + count / 2, -64 + count / 2,
            LEAST, LEAST + 1, MOST};
    }

    /** Asks of numbers that are not good, when there are no events, few, all but one, and all. */
    static void askOfNoEvent(String call, Question question, int due) {
        for (int count : new int[] {0, 1, 4, 16, 47, 48}) {
            GossipOrder order = Runs.ring(count, 9);
            for (int x : noEvents(count)) {
                Check.due(count + " events: " + call + "(" + x + ")", question.ask(order, x), due);
            }
        }
    }
}
