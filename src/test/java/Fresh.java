import java.util.function.Supplier;

/** Objects led to the same state, one after the other: what an object answers behind its 512th call is free. */
final class Fresh implements Supplier<GrassCells> {
    private static final int CALLS = 512;

    private final Supplier<GrassCells> lead;
    private final int asks;
    private GrassCells x;
    private int left = 0;

    /** Of the 512 calls at most so many as said lead an object to its state. */
    Fresh(Supplier<GrassCells> lead, int leading) {
        this.lead = lead;
        this.asks = CALLS - leading;
    }

    /** For one call. */
    @Override
    public GrassCells get() {
        if (left == 0) {
            x = lead.get();
            left = asks;
        }
        left--;
        return x;
    }
}
