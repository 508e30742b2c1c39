/**
 * Maps Deflate match distances (1..32768) to slots (0..29) and extra bits, and back.
 * It holds no state, so every answer depends on the arguments alone.
 */
public final class DistSlot {
    private static final int FIRST_DISTANCE = 1;
    private static final int LAST_DISTANCE = 32768;
    private static final int LAST_SLOT = 29;
    private static final int OFFSET_SHIFT = 4;
    private static final int OUT_OF_RANGE = -1;
    private static final int BITS_DO_NOT_FIT = -2;

    public DistSlot() {
    }

    /** The slot that holds dist, or -1 if dist is no distance. */
    public int slot(int dist) {
        if (!isDistance(dist)) {
            return OUT_OF_RANGE;
        }
        // The slots leave no gaps, so the highest one that starts at or below dist holds it.
        for (int s = LAST_SLOT; s > 0; s--) {
            if (dist >= baseOf(s)) {
                return s;
            }
        }
        return 0;
    }

    /** The offset of dist in its slot, above four bits with the slot's width; -1 if dist is no distance. */
    public int extra(int dist) {
        if (!isDistance(dist)) {
            return OUT_OF_RANGE;
        }
        int s = slot(dist);
        int offset = dist - baseOf(s);
        return (offset << OFFSET_SHIFT) | widthOf(s);
    }

    /** The distance at offset bits of the slot; -1 if there is no such slot, -2 if the bits don't fit it. */
    public int join(int slot, int bits) {
        // The slot is looked at first: a wrong slot answers -1 even when the bits are wrong too.
        if (!isSlot(slot)) {
            return OUT_OF_RANGE;
        }
        if (bits < 0 || bits >= (1 << widthOf(slot))) {
            return BITS_DO_NOT_FIT;
        }
        return baseOf(slot) + bits;
    }

    private static boolean isDistance(int dist) {
        return dist >= FIRST_DISTANCE && dist <= LAST_DISTANCE;
    }

    private static boolean isSlot(int s) {
        return s >= 0 && s <= LAST_SLOT;
    }

    private static int widthOf(int s) {
        return s < 2 ? 0 : (s >> 1) - 1;
    }

    // The document's sum of the slot sizes below s, in closed form: from slot 2 on, each pair of
    // slots 2k and 2k+1 starts at 2 and 3 times the pair's slot size, plus 1.
    private static int baseOf(int s) {
        if (s < 2) {
            return FIRST_DISTANCE + s;
        }
        return FIRST_DISTANCE + ((2 + (s & 1)) << widthOf(s));
    }
}
