public final class RouteTable {
    public static final int NONE = -1;

    private static final int ADDRESSES = 256;
    private static final int ADDRESS_BITS = 8;
    private static final int GOALS = 100;
    private static final int PLACES = 512;

    // Every beginning has a place of its own, 1 .. 511: its bits behind a
    // leading 1, which keeps beginnings of different length apart. All of them
    // fit, so the table is never full. NONE stands where there is no route.
    private final int[] goals = new int[PLACES];

    public RouteTable() {
        emptyAllPlaces();
    }

    public boolean put(int address, int bits, int goal) {
        if (!isBeginning(address, bits) || !isGoal(goal)) {
            return false;
        }
        goals[placeOf(address, bits)] = goal;
        return true;
    }

    public boolean drop(int address, int bits) {
        if (!hasRoute(address, bits)) {
            return false;
        }
        goals[placeOf(address, bits)] = NONE;
        return true;
    }

    public void clear() {
        emptyAllPlaces();
    }

    public int routes() {
        int count = 0;
        for (int place = 0; place < PLACES; place++) {
            if (goals[place] != NONE) {
                count++;
            }
        }
        return count;
    }

    public int exact(int address, int bits) {
        if (!isBeginning(address, bits)) {
            return NONE;
        }
        return goals[placeOf(address, bits)];
    }

    public int goal(int address) {
        return goalWithout(address, NONE);
    }

    public int bits(int address) {
        return longestMatch(address, NONE);
    }

    public int matching(int address) {
        if (!isAddress(address)) {
            return 0;
        }
        int count = 0;
        for (int bits = 0; bits <= ADDRESS_BITS; bits++) {
            if (goals[placeOf(address, bits)] != NONE) {
                count++;
            }
        }
        return count;
    }

    public int next(int from, int goal) {
        // An address that no route matches answers NONE as its goal, but is
        // not sent to a goal NONE: it must not be found.
        if (!isGoal(goal)) {
            return NONE;
        }
        int first = from < 0 ? 0 : from;
        for (int address = first; address < ADDRESSES; address++) {
            if (goal(address) == goal) {
                return address;
            }
        }
        return NONE;
    }

    public int load(int address, int bits) {
        if (!hasRoute(address, bits)) {
            return NONE;
        }
        int end = address + matchedBy(bits);
        int count = 0;
        for (int matched = address; matched < end; matched++) {
            if (bits(matched) == bits) {
                count++;
            }
        }
        return count;
    }

    public int sent(int goal) {
        int count = 0;
        for (int address = 0; address < ADDRESSES; address++) {
            if (goal(address) == goal) {
                count++;
            }
        }
        return count;
    }

    public boolean idle(int address, int bits) {
        if (!hasRoute(address, bits)) {
            return false;
        }
        // Addresses that the route does not match are not sent by it, so
        // nothing changes for them.
        int end = address + matchedBy(bits);
        for (int matched = address; matched < end; matched++) {
            if (goalWithout(matched, bits) != goal(matched)) {
                return false;
            }
        }
        return true;
    }

    public int spans() {
        int count = 0;
        for (int address = 0; address < ADDRESSES; address++) {
            if (startsSpan(address)) {
                count++;
            }
        }
        return count;
    }

    public int spanStart(int i) {
        int span = 0;
        for (int address = 0; address < ADDRESSES; address++) {
            if (startsSpan(address)) {
                if (span == i) {
                    return address;
                }
                span++;
            }
        }
        return NONE;
    }

    private void emptyAllPlaces() {
        for (int place = 0; place < PLACES; place++) {
            goals[place] = NONE;
        }
    }

    private static boolean isAddress(int address) {
        return address >= 0 && address < ADDRESSES;
    }

    private static boolean isGoal(int goal) {
        return goal >= 0 && goal < GOALS;
    }

    private static boolean isBeginning(int address, int bits) {
        return isAddress(address)
            && bits >= 0
            && bits <= ADDRESS_BITS
            && (address & (matchedBy(bits) - 1)) == 0;
    }

    private boolean hasRoute(int address, int bits) {
        return exact(address, bits) != NONE;
    }

    // The callers have looked at both: an address, and 0 .. 8 bits. The
    // address may be any that the beginning matches, for its last bits fall
    // away.
    private static int placeOf(int address, int bits) {
        return (ADDRESSES + address) >> (ADDRESS_BITS - bits);
    }

    // How many addresses a beginning of 0 .. 8 bits matches.
    private static int matchedBy(int bits) {
        return ADDRESSES >> bits;
    }

    // An address is matched by at most one route of each number of bits, so
    // passing over a number of bits leaves out one route; NONE leaves out none.
    private int longestMatch(int address, int passedOver) {
        if (!isAddress(address)) {
            return NONE;
        }
        for (int bits = ADDRESS_BITS; bits >= 0; bits--) {
            if (bits != passedOver && goals[placeOf(address, bits)] != NONE) {
                return bits;
            }
        }
        return NONE;
    }

    private int goalWithout(int address, int passedOver) {
        int bits = longestMatch(address, passedOver);
        if (bits == NONE) {
            return NONE;
        }
        return goals[placeOf(address, bits)];
    }

    private boolean startsSpan(int address) {
        return address == 0 || goal(address) != goal(address - 1);
    }
}
