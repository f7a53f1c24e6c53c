/** A table of numbers under version control: commits, branches, differences and three-way merges. */
public final class ChunkVersions {
    private static final int KEYS = 64;
    private static final int BRANCHES = 4;
    private static final int MOST_COMMITS = 20;
    private static final int NO_COMMIT = -1;

    // The working map lies behind the commits' maps, so that one set of methods serves both.
    private static final int WORKING = MOST_COMMITS;
    private static final int CELLS = (MOST_COMMITS + 1) * KEYS;

    private static final int WIDEST_STEP = 16;

    private static final int OURS = 0;
    private static final int THEIRS = 1;
    private static final int REFUSE = 2;

    private static final int NOTHING_TO_MERGE = 1000;
    private static final int HEAD_MOVED = 2000;

    // Map m has key k at m * KEYS + k; the value of an absent key is kept 0.
    private final boolean[] present = new boolean[CELLS];
    private final int[] values = new int[CELLS];

    private final int[] firstParents = new int[MOST_COMMITS];
    private final int[] secondParents = new int[MOST_COMMITS];

    // Bit c of ancestry[d] tells whether c is an ancestor of d. Parents never change, so it is
    // worked out once, when d is made.
    private final int[] ancestry = new int[MOST_COMMITS];

    private final int[] heads = new int[BRANCHES];
    private int commitCount;
    private int currentBranch;

    public ChunkVersions() {
        firstParents[0] = NO_COMMIT;
        secondParents[0] = NO_COMMIT;
        ancestry[0] = 1;
        commitCount = 1;
        currentBranch = 0;
    }

    public int put(int key, int value) {
        if (!isKey(key)) {
            return -1;
        }
        int before = presence(WORKING, key);
        setWorking(key, value);
        return 1 - before;
    }

    public int delete(int key) {
        if (!isKey(key)) {
            return -1;
        }
        int before = presence(WORKING, key);
        int cell = cellOf(WORKING, key);
        present[cell] = false;
        values[cell] = 0;
        return before;
    }

    public int spread(int first, int plan, int value) {
        if (!isKey(first)) {
            return -1;
        }
        // The shift rounds down, so a negative plan has a negative step.
        int step = plan >> 6;
        if (step < 1 || step > WIDEST_STEP) {
            return -2;
        }
        // Six bits hold just the counts 1 .. 64: the document's -3 can't come up.
        int count = (plan & 63) + 1;
        int given = 0;
        for (int key = first; key < KEYS && given < count; key += step) {
            setWorking(key, value + given);
            given++;
        }
        return given;
    }

    public int commit() {
        if (isFull()) {
            return -1;
        }
        return addCommit(NO_COMMIT);
    }

    public int reset() {
        return loadWorking(heads[currentBranch]);
    }

    public int checkout(int commit) {
        if (!isCommit(commit)) {
            return -1;
        }
        return loadWorking(commit);
    }

    public int change(int branch) {
        if (!isBranch(branch)) {
            return -1;
        }
        if (!isClean()) {
            return -2;
        }
        currentBranch = branch;
        loadWorking(heads[branch]);
        return heads[branch];
    }

    public int branch(int branch) {
        if (!isBranch(branch)) {
            return -1;
        }
        if (branch == currentBranch) {
            return -2;
        }
        int before = heads[branch];
        heads[branch] = heads[currentBranch];
        return before;
    }

    public int merge(int branch, int side) {
        if (!isBranch(branch)) {
            return -1;
        }
        if (!isSide(side)) {
            return -2;
        }
        if (!isClean()) {
            return -3;
        }
        int ours = heads[currentBranch];
        int theirs = heads[branch];
        int origin = greatestCommonAncestor(ours, theirs);
        if (origin == theirs) {
            return NOTHING_TO_MERGE;
        }
        if (origin == ours) {
            heads[currentBranch] = theirs;
            loadWorking(theirs);
            return HEAD_MOVED;
        }
        if (isFull()) {
            return -4;
        }
        int found = countConflicts(origin, ours, theirs);
        if (side == REFUSE && found > 0) {
            return -5;
        }
        mergeIntoWorking(origin, ours, theirs, side);
        addCommit(theirs);
        return found;
    }

    public int pick(int commit, int side) {
        if (!isCommit(commit)) {
            return -1;
        }
        if (!isSide(side)) {
            return -2;
        }
        if (!isClean()) {
            return -3;
        }
        if (isFull()) {
            return -4;
        }
        int origin = firstParents[commit];
        if (origin == NO_COMMIT) {
            return -5;
        }
        int ours = heads[currentBranch];
        int found = countConflicts(origin, ours, commit);
        if (side == REFUSE && found > 0) {
            return -6;
        }
        mergeIntoWorking(origin, ours, commit, side);
        addCommit(NO_COMMIT);
        return found;
    }

    public int commits() {
        return commitCount;
    }

    public int current() {
        return currentBranch;
    }

    public int head(int branch) {
        return isBranch(branch) ? heads[branch] : -1;
    }

    public int parent(int commit, int which) {
        if (!isCommit(commit)) {
            return -1;
        }
        int found = which == 0 ? firstParents[commit] : secondParents[commit];
        return found == NO_COMMIT ? -2 : found;
    }

    public int clean() {
        return isClean() ? 1 : 0;
    }

    public int has(int key) {
        return isKey(key) ? presence(WORKING, key) : -1;
    }

    public int value(int key) {
        return isKey(key) ? values[cellOf(WORKING, key)] : 0;
    }

    public int hasIn(int commit, int key) {
        if (!isCommit(commit)) {
            return -1;
        }
        if (!isKey(key)) {
            return -2;
        }
        return presence(commit, key);
    }

    public int valueIn(int commit, int key) {
        if (!isCommit(commit) || !isKey(key)) {
            return 0;
        }
        return values[cellOf(commit, key)];
    }

    public int size(int commit) {
        if (!isCommit(commit)) {
            return -1;
        }
        int found = 0;
        for (int key = 0; key < KEYS; key++) {
            found += presence(commit, key);
        }
        return found;
    }

    public int differing(int a, int b) {
        if (!isCommit(a) || !isCommit(b)) {
            return -1;
        }
        return countDifferences(a, b);
    }

    public int nextDifference(int a, int b, int after) {
        if (!isCommit(a) || !isCommit(b)) {
            return -1;
        }
        // Comparing, not adding one to after: that would wrap at the greatest int.
        for (int key = 0; key < KEYS; key++) {
            if (key > after && !agree(a, b, key)) {
                return key;
            }
        }
        return -2;
    }

    public int base(int a, int b) {
        if (!isCommit(a) || !isCommit(b)) {
            return -1;
        }
        return greatestCommonAncestor(a, b);
    }

    public int ancestors(int commit) {
        if (!isCommit(commit)) {
            return -1;
        }
        int found = 0;
        for (int c = 0; c < MOST_COMMITS; c++) {
            found += (ancestry[commit] >> c) & 1;
        }
        return found;
    }

    public int conflicts(int a, int b) {
        if (!isCommit(a) || !isCommit(b)) {
            return -1;
        }
        int origin = greatestCommonAncestor(a, b);
        return countConflicts(origin, a, b);
    }

    private boolean isKey(int key) {
        return key >= 0 && key < KEYS;
    }

    private boolean isCommit(int commit) {
        return commit >= 0 && commit < commitCount;
    }

    private boolean isBranch(int branch) {
        return branch >= 0 && branch < BRANCHES;
    }

    private boolean isSide(int side) {
        return side >= OURS && side <= REFUSE;
    }

    private boolean isFull() {
        return commitCount >= MOST_COMMITS;
    }

    private boolean isClean() {
        return countDifferences(WORKING, heads[currentBranch]) == 0;
    }

    private int cellOf(int map, int key) {
        return map * KEYS + key;
    }

    private int presence(int map, int key) {
        return present[cellOf(map, key)] ? 1 : 0;
    }

    private void setWorking(int key, int value) {
        int cell = cellOf(WORKING, key);
        present[cell] = true;
        values[cell] = value;
    }

    private boolean agree(int a, int b, int key) {
        int inA = cellOf(a, key);
        int inB = cellOf(b, key);
        // Absent keys have the value 0, so two of them have equal values as well.
        return present[inA] == present[inB] && values[inA] == values[inB];
    }

    private int countDifferences(int a, int b) {
        int found = 0;
        for (int key = 0; key < KEYS; key++) {
            if (!agree(a, b, key)) {
                found++;
            }
        }
        return found;
    }

    private void copyKey(int from, int to, int key) {
        int source = cellOf(from, key);
        int target = cellOf(to, key);
        present[target] = present[source];
        values[target] = values[source];
    }

    private void copyMap(int from, int to) {
        for (int key = 0; key < KEYS; key++) {
            copyKey(from, to, key);
        }
    }

    /** Answers on how many keys the working map was another than the commit's. */
    private int loadWorking(int commit) {
        int changed = countDifferences(WORKING, commit);
        copyMap(commit, WORKING);
        return changed;
    }

    /** Makes a commit of the working map on the current branch. To be called only if there is room. */
    private int addCommit(int secondParent) {
        int made = commitCount;
        int firstParent = heads[currentBranch];
        copyMap(WORKING, made);
        firstParents[made] = firstParent;
        secondParents[made] = secondParent;
        ancestry[made] = (1 << made) | ancestry[firstParent];
        if (secondParent != NO_COMMIT) {
            ancestry[made] |= ancestry[secondParent];
        }
        heads[currentBranch] = made;
        commitCount++;
        return made;
    }

    private int greatestCommonAncestor(int a, int b) {
        int common = ancestry[a] & ancestry[b];
        int found = 0;
        for (int c = 0; c < MOST_COMMITS; c++) {
            if (((common >> c) & 1) == 1) {
                found = c;
            }
        }
        return found;
    }

    private boolean isConflict(int origin, int ours, int theirs, int key) {
        return !agree(ours, theirs, key) && !agree(ours, origin, key) && !agree(theirs, origin, key);
    }

    private int countConflicts(int origin, int ours, int theirs) {
        int found = 0;
        for (int key = 0; key < KEYS; key++) {
            if (isConflict(origin, ours, theirs, key)) {
                found++;
            }
        }
        return found;
    }

    private void mergeIntoWorking(int origin, int ours, int theirs, int side) {
        for (int key = 0; key < KEYS; key++) {
            boolean takeTheirs = agree(ours, origin, key);
            if (isConflict(origin, ours, theirs, key)) {
                takeTheirs = side == THEIRS;
            }
            copyKey(takeTheirs ? theirs : ours, WORKING, key);
        }
    }
}
