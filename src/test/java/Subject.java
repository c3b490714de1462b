import java.util.function.Supplier;

/**
 * Objects that all came about by the same calls, for more questions than one object may be asked:
 * the document promises nothing after the 512th call of an object.
 */
final class Subject {
    private static final int MOST_CALLS = 512;

    private final int callsToMake;
    private final Supplier<GossipOrder> maker;
    private GossipOrder order;
    private int calls;

    /** The maker makes an object and calls it so many times, which must be fewer than 512. */
    Subject(int callsToMake, Supplier<GossipOrder> maker) {
        this.callsToMake = callsToMake;
        this.maker = maker;
    }

    /** An object that may be called once. */
    GossipOrder ask() {
        if (order == null || calls == MOST_CALLS) {
            order = maker.get();
            calls = callsToMake;
        }
        calls++;
        return order;
    }
}
