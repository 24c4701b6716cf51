/** Compares two family trees of the same seven members; a set of members is a number, bit m for member m. */
public final class TreeCompare {
    public static final int BAD = -1;

    private static final int MEMBERS = 7;
    private static final int SETS = 128;
    private static final int ALL = 127;
    private static final int BOTH_TREES = 3;
    private static final int LEVEL = 3;

    // Bit t of owners[set] tells that tree t has the set as a group: so only a set is ever an index.
    private final int[] owners = new int[SETS];

    public TreeCompare() {
        reset(0);
        reset(1);
    }

    public boolean add(int t, int group) {
        if (!isTree(t) || !isSet(group) || group == 0) {
            return false;
        }
        if (!fits(t, group)) {
            return false;
        }
        owners[group] |= 1 << t;
        return true;
    }

    public boolean remove(int t, int group) {
        if (!isTree(t) || !isSet(group)) {
            return false;
        }
        if (!has(t, group) || isInEveryTree(group)) {
            return false;
        }
        owners[group] &= ~(1 << t);
        return true;
    }

    public boolean clear(int t) {
        if (!isTree(t)) {
            return false;
        }
        reset(t);
        return true;
    }

    public int groups(int t) {
        if (!isTree(t)) {
            return BAD;
        }
        int count = 0;
        for (int group = 1; group < SETS; group++) {
            if (has(t, group)) {
                count++;
            }
        }
        return count;
    }

    public int join(int t, int set) {
        if (!isTree(t) || !isSet(set)) {
            return BAD;
        }
        if (set == 0) {
            return 0;
        }
        // Groups that share a member hold one another, and a set's number is above that of every set
        // within it: so the first group found is also the one with the fewest members.
        for (int group = 1; group < SETS; group++) {
            if (has(t, group) && (group & set) == set) {
                return group;
            }
        }
        return ALL;
    }

    public int says(int t, int a, int b, int c) {
        if (!isTree(t) || !isMember(a) || !isMember(b) || !isMember(c)) {
            return BAD;
        }
        if (a == b || a == c || b == c) {
            return BAD;
        }
        int three = 1 << a | 1 << b | 1 << c;
        int pair = closerPair(t, three);
        if (pair == 0) {
            return LEVEL;
        }
        int apart = three & ~pair;
        if (apart == 1 << a) {
            return 0;
        }
        return apart == 1 << b ? 1 : 2;
    }

    public int decided(int t) {
        if (!isTree(t)) {
            return BAD;
        }
        int count = 0;
        for (int three = 0; three < SETS; three++) {
            if (size(three) == 3 && closerPair(t, three) != 0) {
                count++;
            }
        }
        return count;
    }

    public int groupDistance() {
        int count = 0;
        for (int group = 1; group < SETS; group++) {
            if (has(0, group) != has(1, group)) {
                count++;
            }
        }
        return count;
    }

    public int tripleDistance() {
        return disputesWithin(ALL);
    }

    public int agreement() {
        int set = largestAgreed();
        return size(set);
    }

    public int agreeingSet() {
        return largestAgreed();
    }

    public boolean agree(int set) {
        return isSet(set) && disputesWithin(set) == 0;
    }

    public boolean together() {
        for (int group = 1; group < SETS; group++) {
            if (has(0, group) && !fits(1, group)) {
                return false;
            }
        }
        return true;
    }

    public int common() {
        int count = 0;
        for (int group = 1; group < SETS; group++) {
            if (owners[group] == BOTH_TREES) {
                count++;
            }
        }
        return count;
    }

    public int depth(int t, int m) {
        if (!isTree(t) || !isMember(m)) {
            return BAD;
        }
        int count = 0;
        for (int group = 1; group < SETS; group++) {
            if (has(t, group) && (group >> m & 1) == 1) {
                count++;
            }
        }
        return count;
    }

    public int room(int t) {
        if (!isTree(t)) {
            return BAD;
        }
        int count = 0;
        for (int group = 1; group < SETS; group++) {
            if (!has(t, group) && fits(t, group)) {
                count++;
            }
        }
        return count;
    }

    private static boolean isTree(int t) {
        return t == 0 || t == 1;
    }

    private static boolean isSet(int set) {
        return set >= 0 && set < SETS;
    }

    private static boolean isMember(int m) {
        return m >= 0 && m < MEMBERS;
    }

    private static int size(int set) {
        int count = 0;
        for (int m = 0; m < MEMBERS; m++) {
            count += set >> m & 1;
        }
        return count;
    }

    private static boolean isInEveryTree(int group) {
        return group == ALL || size(group) == 1;
    }

    private void reset(int t) {
        for (int group = 1; group < SETS; group++) {
            if (isInEveryTree(group)) {
                owners[group] |= 1 << t;
            } else {
                owners[group] &= ~(1 << t);
            }
        }
    }

    private boolean has(int t, int group) {
        return (owners[group] >> t & 1) == 1;
    }

    /** Whether no group of tree t shares members with the given one without one of them holding the other. */
    private boolean fits(int t, int group) {
        for (int other = 1; other < SETS; other++) {
            int shared = group & other;
            boolean crosses = shared != 0 && shared != group && shared != other;
            if (crosses && has(t, other)) {
                return false;
            }
        }
        return true;
    }

    /** The two of three members that tree t says are closer, as a set; the empty set when the three are level. */
    private int closerPair(int t, int three) {
        for (int group = 1; group < SETS; group++) {
            int inside = group & three;
            if (has(t, group) && size(inside) == 2) {
                return inside;
            }
        }
        return 0;
    }

    /** The number of sets of three members of the given set about which the trees say different things. */
    private int disputesWithin(int set) {
        int count = 0;
        for (int three = 0; three < SETS; three++) {
            boolean counts = (three & set) == three && size(three) == 3;
            if (counts && closerPair(0, three) != closerPair(1, three)) {
                count++;
            }
        }
        return count;
    }

    /** Of the largest sets on which the trees agree, the least as a number. */
    private int largestAgreed() {
        int best = 0;
        for (int set = 1; set < SETS; set++) {
            // Only a larger set displaces the best one, so that the least number stays among equals.
            if (size(set) > size(best) && disputesWithin(set) == 0) {
                best = set;
            }
        }
        return best;
    }
}
