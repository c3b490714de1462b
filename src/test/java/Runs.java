/** Runs of events that several tests start from. */
final class Runs {
    // A run is a list of events, each a member and its other parent (-1: none).

    /**
     * The fame of event 3, a witness of round 1, is open until round 6, five rounds on,
     * where the witnesses 23, 24, 25 and 26 vote; event 28 of round 7 decides it by their votes.
     * Found by a search.
     */
    static final int[][] LONG_OPEN = {
        {0, -1}, {1, -1}, {2, -1}, {3, -1}, {0, 1}, {0, 2}, {2, 5}, {1, 6},
        {0, 7}, {3, 8}, {2, 9}, {1, 10}, {2, 11}, {3, 12}, {0, 13}, {1, 14},
        {0, 15}, {3, 16}, {2, 17}, {0, 18}, {2, 19}, {3, 20}, {1, 21}, {0, 22},
        {2, 23}, {1, 24}, {0, 24}, {2, 25}, {3, 27},
    };

    /**
     * The fame of event 3 is open until round 6 too, but there most witnesses hear three say no:
     * that decides nothing yet, and no coin is asked; the last event, of round 7, decides it.
     * Found by a search.
     */
    static final int[][] LONG_OPEN_THEN_NO = {
        {0, -1}, {1, -1}, {2, -1}, {3, -1}, {0, 1}, {0, 2}, {2, 5}, {1, 6},
        {0, 7}, {3, 8}, {2, 9}, {1, 10}, {2, 11}, {3, 12}, {0, 13}, {1, 14},
        {0, 15}, {3, 16}, {0, 17}, {2, 18}, {3, 19}, {0, 20}, {2, 21}, {1, 22},
        {1, 21}, {1, 21}, {1, 21}, {0, 26}, {3, 22}, {2, 27}, {1, 29}, {3, 30},
    };

    /** The same with three that say yes. */
    static final int[][] LONG_OPEN_THEN_YES = {
        {0, -1}, {1, -1}, {2, -1}, {3, -1}, {0, 1}, {0, 2}, {2, 5}, {1, 6},
        {0, 7}, {3, 8}, {2, 9}, {1, 10}, {2, 11}, {3, 12}, {0, 13}, {1, 14},
        {1, 12}, {1, 12}, {1, 14}, {2, 18}, {3, 19}, {1, 20}, {0, 21}, {1, 22},
        {2, 20}, {2, 23}, {1, 25}, {3, 26}, {2, 27}, {0, 28}, {0, 28}, {0, 27},
        {3, 31}, {1, 32},
    };

    /**
     * Event 18 of round 4 decides the fame of event 6; then event 19, late but of round 3,
     * can decide it too, and is asked before. Found by a search.
     */
    static final int[][] LATE_DECIDER = {
        {1, -1}, {3, -1}, {0, -1}, {3, 2}, {3, 0}, {0, 4}, {2, -1}, {1, 5}, {3, 6}, {3, 7},
        {0, 9}, {3, 10}, {2, 10}, {2, 11}, {0, 13}, {1, 11}, {1, 14}, {0, 16}, {2, 17}, {3, 16},
    };

    /** One of the four witnesses of round 1 is well under event 7, all four are well under event 8. */
    static final int[][] FOUR_AT_ONCE = {
        {0, -1}, {1, -1}, {2, -1}, {3, -1}, {1, 2}, {0, 1}, {0, 3}, {1, 6}, {3, 7},
    };

    /**
     * On event 3, each of the witnesses 12, 13, 14, 15 of round 3 hears two say yes (9, 10) and two
     * say no (7, 8); event 16 of round 4 hears of three of them. Found by a search.
     */
    static final int[][] TIES = {
        {0, -1}, {1, -1}, {2, -1}, {3, -1}, {2, 0}, {2, 1}, {0, 5}, {1, 6},
        {2, 7}, {3, 8}, {0, 9}, {3, 10}, {2, 11}, {0, 12}, {3, 13}, {1, 14}, {0, 15},
    };

    /** Event 14, the first of round 3, hears all four witnesses of round 2 say yes on event 0. Found by a search. */
    static final int[][] FOUR_SAY_YES = {
        {0, -1}, {1, -1}, {2, -1}, {3, -1}, {3, 1}, {3, 2}, {1, 5}, {0, 6},
        {2, 7}, {1, 4}, {3, 8}, {1, 10}, {3, 6}, {3, 11}, {0, 13},
    };

    /** Event 15, the first of round 3, hears one witness say yes on event 3, three say no. Found by a search. */
    static final int[][] ONE_SAYS_YES = {
        {0, -1}, {1, -1}, {2, -1}, {3, -1}, {0, 2}, {0, 1}, {2, 5}, {3, 6},
        {1, 4}, {1, 6}, {2, 9}, {0, 10}, {1, 7}, {1, 2}, {1, 11}, {2, 14},
    };

    /**
     * If of the witnesses of round 6 (23 .. 26) the coins of 25 and 26 alone are true, the fame of
     * event 3 is open until round 11, ten rounds on, where 43, 44, 45 vote by their coins; the last
     * event that there can be, of round 12, decides it by their votes. Found by a search.
     */
    static final int[][] OPEN_TEN_ROUNDS = {
        {0, -1}, {1, -1}, {2, -1}, {3, -1}, {0, 1}, {2, 4}, {0, 5}, {1, 6},
        {0, 7}, {3, 8}, {2, 9}, {1, 10}, {2, 11}, {0, 12}, {3, 13}, {1, 14},
        {3, 15}, {0, 16}, {2, 17}, {3, 18}, {2, 19}, {1, 20}, {2, 21}, {3, 22},
        {0, 23}, {1, 24}, {2, 25}, {3, 26}, {2, 27}, {0, 28}, {1, 29}, {3, 30},
        {1, 31}, {0, 32}, {2, 33}, {3, 34}, {2, 35}, {1, 36}, {0, 37}, {2, 38},
        {3, 39}, {1, 40}, {3, 41}, {0, 42}, {3, 43}, {1, 44}, {2, 45}, {0, 46},
    };

    /**
     * If of the witnesses of round 6 the coins of 23 and 26 alone are true, the fame of event 3 is
     * open until round 11 too; there event 43 hears three say no. Found by a search.
     */
    static final int[][] NO_AFTER_TEN_ROUNDS = {
        {0, -1}, {1, -1}, {2, -1}, {3, -1}, {2, 1}, {0, 4}, {1, 5}, {2, 6},
        {1, 7}, {3, 8}, {0, 9}, {2, 10}, {0, 11}, {3, 12}, {1, 13}, {2, 14},
        {1, 15}, {0, 16}, {3, 17}, {1, 18}, {0, 19}, {3, 20}, {1, 21}, {2, 22},
        {1, 23}, {0, 24}, {3, 25}, {2, 26}, {3, 27}, {1, 28}, {0, 29}, {3, 30},
        {0, 31}, {2, 32}, {1, 33}, {0, 34}, {1, 35}, {3, 36}, {0, 37}, {2, 38},
        {0, 39}, {1, 40}, {3, 41}, {0, 42},
    };

    static final int[][][] RARE = {LONG_OPEN, LONG_OPEN_THEN_NO, LONG_OPEN_THEN_YES, LATE_DECIDER, TIES};

    private Runs() {
    }

    /**
     * Events 0 .. 3 are alone, one of each member; every later event n is made by member
     * n % 4, who gossips with event n - 1. So all of 0 .. n are under n from n = 6 on, and
     * x is well under n from n = x + 2 on (n = 6, 7, 8 for x = 0, 1, 2).
     * Rounds: 0 .. 6 are of round 1; 7 .. 10 of round 2; 11 .. 14 of round 3; and so on.
     * All but 4, 5, 6 are witnesses, and all witnesses of a round are famous by the first
     * event two rounds later.
     */
    static GossipOrder ring(int events, int... times) {
        return ringOf(4, events, times);
    }

    /**
     * The same with members 0 .. 2 alone. All of 0 .. n are under n from n = 5 on, and x is well
     * under n from n = x + 2 on (n = 5, 6 for x = 0, 1). 0 .. 5 are of round 1, 6 .. 9 of round 2,
     * 10 .. 13 of round 3, and so on; 3, 4, 5, 9, 13, .. are no witnesses.
     */
    static GossipOrder ringOfThree(int events, int... times) {
        return ringOf(3, events, times);
    }

    private static GossipOrder ringOf(int members, int events, int[] times) {
        GossipOrder order = new GossipOrder();
        for (int n = 0; n < events; n++) {
            stepRing(order, members, n, times[n % times.length]);
        }
        return order;
    }

    static int stepRing(GossipOrder order, int members, int n, int time) {
        return n < members ? order.alone(n, time, false) : order.gossip(n % members, n - 1, time, false);
    }

    /** The times 0, 10, 20, .. */
    static int[] tens() {
        int[] times = new int[48];
        for (int n = 0; n < times.length; n++) {
            times[n] = 10 * n;
        }
        return times;
    }

    /** The first events of a run, with the times 0, 1, 2, .. and one coin for all. */
    static GossipOrder play(int[][] run, int events, boolean coin) {
        GossipOrder order = new GossipOrder();
        for (int n = 0; n < events; n++) {
            step(order, run[n], n, coin);
        }
        return order;
    }

    static int step(GossipOrder order, int[] makerAndOther, int time, boolean coin) {
        if (makerAndOther[1] < 0) {
            return order.alone(makerAndOther[0], time, coin);
        }
        return order.gossip(makerAndOther[0], makerAndOther[1], time, coin);
    }
}
