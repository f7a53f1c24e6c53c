/** The promises of the document one by one: ordinary inputs, the edges it names, and wrong inputs. */
public final class ChunkVersionsPromises {
    private static final int LEAST = Integer.MIN_VALUE;
    private static final int GREATEST = Integer.MAX_VALUE;
    private static final int[] BAD_KEYS = {-1, 64, 65, LEAST, GREATEST};
    private static final int[] BAD_BRANCHES = {-1, 4, 5, LEAST, GREATEST};
    private static final int[] BAD_SIDES = {-1, 3, 4, LEAST, GREATEST};

    private static int wrong = 0;

    private static void due(int promise, String call, String got, String want) {
        if (!got.equals(want)) {
            wrong++;
            System.out.println("promise " + promise + ": " + call + " answered " + got + ", due is " + want);
        }
    }

    private static void due(int promise, String call, int got, int want) {
        due(promise, call, Integer.toString(got), Integer.toString(want));
    }

    /**
     * All that the questions tell of a state, so that two states can be compared. Each map is told by how it
     * differs from the one before it: an object is good for 512 calls alone, and asking key by key takes too many.
     */
    private static String state(ChunkVersions x) {
        StringBuilder told = new StringBuilder();
        int commits = x.commits();
        told.append("commits ").append(commits).append(" current ").append(x.current());
        for (int branch = 0; branch < 4; branch++) {
            told.append(" head ").append(x.head(branch));
        }
        told.append(" working ").append(x.clean() == 1 ? "clean" : working(x));
        told.append(" size ").append(x.size(0));
        for (int commit = 0; commit < commits; commit++) {
            told.append(" commit ").append(commit).append(" parents ").append(x.parent(commit, 0)).append(' ')
                .append(x.parent(commit, 1)).append(" map ").append(changes(x, commit - 1, commit));
        }
        return told.toString();
    }

    private static String changes(ChunkVersions x, int from, int to) {
        StringBuilder told = new StringBuilder();
        int key = x.nextDifference(from, to, -1);
        // Counted, since a broken nextDifference could answer the same key for ever.
        for (int found = 0; key >= 0 && found < 64; found++) {
            told.append(key).append(x.hasIn(to, key) == 1 ? "=" + x.valueIn(to, key) : " absent").append(' ');
            key = x.nextDifference(from, to, key);
        }
        return told.toString().trim();
    }

    private static String map(ChunkVersions x, int commit) {
        return changes(x, 0, commit);
    }

    private static String working(ChunkVersions x) {
        StringBuilder told = new StringBuilder();
        for (int key = 0; key < 64; key++) {
            if (x.has(key) == 1) {
                told.append(key).append('=').append(x.value(key)).append(' ');
            }
        }
        return told.toString().trim();
    }

    private static ChunkVersions withCommits(int commits) {
        ChunkVersions x = new ChunkVersions();
        for (int made = 1; made < commits; made++) {
            x.put(made, made);
            x.commit();
        }
        return x;
    }

    /**
     * Commit 1 on branches 0 and 1, then commit 2 on branch 0 (current at the end) and 3 on branch 1.
     * By keys, o a b: 0 only ours changes, 1 only theirs changes, 2 both alike, 3 both otherwise (conflict),
     * 4 ours deletes, theirs changes (conflict), 5 ours changes, theirs deletes (conflict), 6 both delete,
     * 7 ours deletes, 8 theirs deletes, 9 ours adds, 10 theirs adds, 11 both add alike,
     * 12 both add otherwise (conflict), 13 none changes.
     */
    private static ChunkVersions forked() {
        ChunkVersions x = new ChunkVersions();
        x.spread(0, 64 + 8, 100);
        x.put(13, 113);
        x.commit();
        x.branch(1);
        x.put(0, 200);
        x.put(2, 202);
        x.put(3, 203);
        x.delete(4);
        x.put(5, 205);
        x.delete(6);
        x.delete(7);
        x.put(9, 209);
        x.put(11, 211);
        x.put(12, 0);
        x.commit();
        x.change(1);
        x.put(1, 301);
        x.put(2, 202);
        x.put(3, 303);
        x.put(4, 304);
        x.delete(5);
        x.delete(6);
        x.delete(8);
        x.put(10, 310);
        x.put(11, 211);
        x.put(12, 312);
        x.commit();
        x.change(0);
        return x;
    }

    private static final String MERGED_OURS =
        "0=200 1=301 2=202 3=203 5=205 9=209 10=310 11=211 12=0 13=113";
    private static final String MERGED_THEIRS =
        "0=200 1=301 2=202 3=303 4=304 9=209 10=310 11=211 12=312 13=113";

    private static void newObject() {
        ChunkVersions x = new ChunkVersions();
        due(1, "commits()", x.commits(), 1);
        due(1, "current()", x.current(), 0);
        for (int branch = 0; branch < 4; branch++) {
            due(1, "head(" + branch + ")", x.head(branch), 0);
        }
        due(1, "clean()", x.clean(), 1);
        due(1, "size(0)", x.size(0), 0);
        due(1, "the working map", working(x), "");
        due(1, "the map of commit 0", map(x, 0), "");
        due(1, "parent(0, 0)", x.parent(0, 0), -2);
        due(1, "parent(0, 1)", x.parent(0, 1), -2);
        due(1, "ancestors(0)", x.ancestors(0), 1);
        ChunkVersions other = new ChunkVersions();
        x.put(1, 1);
        x.commit();
        due(1, "the commits of another object", other.commits(), 1);
        due(1, "the working map of another object", working(other), "");
    }

    private static void put() {
        ChunkVersions x = new ChunkVersions();
        due(2, "put(0, 5)", x.put(0, 5), 1);
        due(2, "put(63, -7)", x.put(63, -7), 1);
        due(2, "put(0, 6)", x.put(0, 6), 0);
        due(2, "put(0, 6) again", x.put(0, 6), 0);
        due(2, "put(7, 0)", x.put(7, 0), 1);
        due(2, "put(7, 0) again", x.put(7, 0), 0);
        due(2, "put(8, LEAST)", x.put(8, LEAST), 1);
        due(2, "put(9, GREATEST)", x.put(9, GREATEST), 1);
        due(2, "the working map", working(x), "0=6 7=0 8=-2147483648 9=2147483647 63=-7");
        due(2, "the map of commit 0", map(x, 0), "");
        String before = state(x);
        for (int key : BAD_KEYS) {
            due(2, "put(" + key + ", 1)", x.put(key, 1), -1);
        }
        due(2, "the state after refused puts", state(x), before);
        x.delete(0);
        due(2, "put(0, 1) after delete(0)", x.put(0, 1), 1);
    }

    private static void delete() {
        ChunkVersions x = new ChunkVersions();
        due(3, "delete(0) of an absent key", x.delete(0), 0);
        x.put(0, 5);
        x.put(63, 0);
        x.commit();
        due(3, "delete(0)", x.delete(0), 1);
        due(3, "delete(0) again", x.delete(0), 0);
        due(3, "delete(63) of the value 0", x.delete(63), 1);
        due(3, "has(63)", x.has(63), 0);
        due(3, "value(0)", x.value(0), 0);
        due(3, "the map of commit 1", map(x, 1), "0=5 63=0");
        String before = state(x);
        for (int key : BAD_KEYS) {
            due(3, "delete(" + key + ")", x.delete(key), -1);
        }
        due(3, "the state after refused deletes", state(x), before);
        x.put(0, 5);
        x.put(63, 0);
        due(3, "clean() after putting them again", x.clean(), 1);
    }

    private static void spread() {
        ChunkVersions x = new ChunkVersions();
        due(4, "spread(5, 64 * 3 + 2, 40)", x.spread(5, 64 * 3 + 2, 40), 3);
        due(4, "the working map", working(x), "5=40 8=41 11=42");
        due(4, "spread(8, 64, 1)", x.spread(8, 64, 1), 1);
        due(4, "spread over a key that was there", working(x), "5=40 8=1 11=42");
        due(4, "spread(50, 64 * 7 + 63, -1)", x.spread(50, 64 * 7 + 63, -1), 2);
        due(4, "the keys at the end", working(x), "5=40 8=1 11=42 50=-1 57=0");
        due(4, "spread(63, 1087, 9)", x.spread(63, 1087, 9), 1);
        due(4, "spread(0, 64 + 63, 0)", x.spread(0, 64 + 63, 0), 64);
        due(4, "value(63)", x.value(63), 63);
        due(4, "spread(0, 64 * 16 + 63, 70)", x.spread(0, 64 * 16 + 63, 70), 4);
        due(4, "value(48)", x.value(48), 73);
        due(4, "spread(15, 64 * 16 + 3, 80)", x.spread(15, 64 * 16 + 3, 80), 4);
        due(4, "value(63)", x.value(63), 83);
        due(4, "spread(16, 64 * 16 + 3, 90)", x.spread(16, 64 * 16 + 3, 90), 3);
    }

    private static void spreadRefusals() {
        ChunkVersions x = new ChunkVersions();
        x.put(5, 40);
        String before = state(x);
        for (int key : BAD_KEYS) {
            due(4, "spread(" + key + ", 64, 1)", x.spread(key, 64, 1), -1);
            due(4, "spread(" + key + ", 0, 1)", x.spread(key, 0, 1), -1);
        }
        int[] badPlans = {0, 1, 63, -1, -63, -64, -65, 64 * 17, 64 * 17 + 63, LEAST, LEAST + 64, GREATEST};
        for (int plan : badPlans) {
            due(4, "spread(0, " + plan + ", 1)", x.spread(0, plan, 1), -2);
        }
        due(4, "the state after refused spreads", state(x), before);
    }

    private static void commit() {
        ChunkVersions x = new ChunkVersions();
        x.put(1, 10);
        due(5, "commit()", x.commit(), 1);
        due(5, "commits()", x.commits(), 2);
        due(5, "head(0)", x.head(0), 1);
        due(5, "head(1)", x.head(1), 0);
        due(5, "parent(1, 0)", x.parent(1, 0), 0);
        due(5, "parent(1, 1)", x.parent(1, 1), -2);
        due(5, "clean()", x.clean(), 1);
        due(5, "commit() of a clean working map", x.commit(), 2);
        due(5, "parent(2, 0)", x.parent(2, 0), 1);
        due(5, "the map of commit 2", map(x, 2), "1=10");
        x.change(1);
        x.put(2, 20);
        due(5, "commit() on branch 1", x.commit(), 3);
        due(5, "parent(3, 0)", x.parent(3, 0), 0);
        due(5, "head(0)", x.head(0), 2);
        due(5, "head(1)", x.head(1), 3);
        x.put(2, 21);
        due(5, "the map of commit 3 after a put", map(x, 3), "2=20");
        due(5, "the working map", working(x), "2=21");
        ChunkVersions full = withCommits(19);
        due(5, "commit() to the 20th", full.commit(), 19);
        full.put(40, 4);
        String before = state(full);
        due(5, "commit() with 20 commits", full.commit(), -1);
        due(5, "the state after a refused commit", state(full), before);
    }

    private static void reset() {
        ChunkVersions x = new ChunkVersions();
        due(6, "reset() of a clean map", x.reset(), 0);
        x.put(1, 1);
        x.put(2, 2);
        x.put(3, 0);
        x.commit();
        x.put(1, 9);
        x.delete(2);
        x.delete(3);
        x.put(4, 0);
        x.put(5, 5);
        x.delete(5);
        due(6, "reset()", x.reset(), 4);
        due(6, "the working map", working(x), "1=1 2=2 3=0");
        due(6, "clean()", x.clean(), 1);
        due(6, "reset() again", x.reset(), 0);
        x.change(1);
        x.put(7, 7);
        due(6, "reset() on branch 1", x.reset(), 1);
        due(6, "the working map on branch 1", working(x), "");
        due(6, "commits()", x.commits(), 2);
    }

    private static void checkout() {
        ChunkVersions x = withCommits(4);
        x.put(50, 0);
        due(7, "checkout(1)", x.checkout(1), 3);
        due(7, "the working map", working(x), "1=1");
        due(7, "head(0)", x.head(0), 3);
        due(7, "current()", x.current(), 0);
        due(7, "clean()", x.clean(), 0);
        due(7, "checkout(1) again", x.checkout(1), 0);
        due(7, "checkout(0)", x.checkout(0), 1);
        due(7, "checkout(3)", x.checkout(3), 3);
        due(7, "clean() at the head", x.clean(), 1);
        x.checkout(2);
        String before = state(x);
        for (int commit : new int[] {-1, 4, 19, 20, LEAST, GREATEST}) {
            due(7, "checkout(" + commit + ")", x.checkout(commit), -1);
        }
        due(7, "the state after refused checkouts", state(x), before);
        due(7, "commit()", x.commit(), 4);
        due(7, "parent(4, 0)", x.parent(4, 0), 3);
        due(7, "the map of commit 4", map(x, 4), "1=1 2=2");
    }

    private static void change() {
        ChunkVersions x = withCommits(3);
        due(8, "change(3)", x.change(3), 0);
        due(8, "current()", x.current(), 3);
        due(8, "the working map", working(x), "");
        due(8, "clean()", x.clean(), 1);
        due(8, "change(0)", x.change(0), 2);
        due(8, "the working map", working(x), "1=1 2=2");
        due(8, "change(0) to the current one", x.change(0), 2);
        String before = state(x);
        for (int branch : BAD_BRANCHES) {
            due(8, "change(" + branch + ")", x.change(branch), -1);
        }
        due(8, "the state after refused changes", state(x), before);
        x.put(1, 5);
        before = state(x);
        for (int branch = 0; branch < 4; branch++) {
            due(8, "change(" + branch + ") when not clean", x.change(branch), -2);
        }
        for (int branch : BAD_BRANCHES) {
            due(8, "change(" + branch + ") when not clean", x.change(branch), -1);
        }
        due(8, "the state after refused changes", state(x), before);
        x.put(1, 1);
        due(8, "change(1) when clean again", x.change(1), 0);
    }

    private static void branch() {
        ChunkVersions x = withCommits(3);
        due(9, "branch(1)", x.branch(1), 0);
        due(9, "head(1)", x.head(1), 2);
        due(9, "head(2)", x.head(2), 0);
        due(9, "branch(1) again", x.branch(1), 2);
        x.put(9, 9);
        due(9, "branch(3) when not clean", x.branch(3), 0);
        due(9, "head(3)", x.head(3), 2);
        due(9, "the working map", working(x), "1=1 2=2 9=9");
        due(9, "current()", x.current(), 0);
        String before = state(x);
        due(9, "branch(0), the current one", x.branch(0), -2);
        for (int branch : BAD_BRANCHES) {
            due(9, "branch(" + branch + ")", x.branch(branch), -1);
        }
        due(9, "the state after refused calls", state(x), before);
        x.reset();
        x.change(2);
        due(9, "branch(0) backwards", x.branch(0), 2);
        due(9, "head(0)", x.head(0), 0);
        due(9, "branch(2), the current one", x.branch(2), -2);
    }

    private static void mergeWithConflicts() {
        for (int side = 0; side < 2; side++) {
            ChunkVersions x = forked();
            due(10, "merge(1, " + side + ")", x.merge(1, side), 4);
            due(10, "the merged map", map(x, 4), side == 0 ? MERGED_OURS : MERGED_THEIRS);
            due(10, "the working map", working(x), map(x, 4));
            due(10, "commits()", x.commits(), 5);
            due(10, "head(0)", x.head(0), 4);
            due(10, "head(1)", x.head(1), 3);
            due(10, "current()", x.current(), 0);
            due(10, "clean()", x.clean(), 1);
            due(10, "parent(4, 0)", x.parent(4, 0), 2);
            due(10, "parent(4, 1)", x.parent(4, 1), 3);
        }
        ChunkVersions x = forked();
        String before = state(x);
        due(10, "merge(1, 2)", x.merge(1, 2), -5);
        due(10, "the state after a refused merge", state(x), before);
    }

    /** One conflict alone, at the first and at the last key. */
    private static void oneConflict() {
        for (int key : new int[] {0, 63}) {
            for (int side = 0; side < 3; side++) {
                ChunkVersions x = new ChunkVersions();
                x.put(key, 1);
                x.commit();
                x.change(1);
                x.put(key, 2);
                x.commit();
                x.branch(2);
                due(26, "conflicts(2, 1) at key " + key, x.conflicts(2, 1), 1);
                due(10, "merge(0, " + side + ") with a conflict at key " + key, x.merge(0, side), side == 2 ? -5 : 1);
                due(10, "value(" + key + ") after it", x.value(key), side == 1 ? 1 : 2);
                x.change(2);
                due(11, "pick(1, " + side + ") with a conflict at key " + key, x.pick(1, side), side == 2 ? -6 : 1);
                due(11, "value(" + key + ") after it", x.value(key), side == 1 ? 1 : 2);
            }
        }
    }

    private static void mergeWithoutConflicts() {
        for (int side = 0; side < 3; side++) {
            ChunkVersions x = new ChunkVersions();
            x.put(1, 1);
            x.commit();
            x.change(2);
            x.put(2, 2);
            x.commit();
            due(10, "merge(0, " + side + ") without conflict", x.merge(0, side), 0);
            due(10, "the merged map", map(x, 3), "1=1 2=2");
            due(10, "parent(3, 0)", x.parent(3, 0), 2);
            due(10, "parent(3, 1)", x.parent(3, 1), 1);
            due(10, "head(2)", x.head(2), 3);
            due(10, "head(0)", x.head(0), 1);
        }
    }

    private static void mergeAlongOneLine() {
        ChunkVersions x = withCommits(3);
        String before = state(x);
        for (int side = 0; side < 3; side++) {
            due(10, "merge(1, " + side + ") of an ancestor", x.merge(1, side), 1000);
            due(10, "merge(0, " + side + ") of itself", x.merge(0, side), 1000);
        }
        due(10, "the state after idle merges", state(x), before);
        for (int side = 0; side < 3; side++) {
            x.change(side + 1);
            due(10, "merge(0, " + side + ") of a descendant", x.merge(0, side), 2000);
            due(10, "head(" + (side + 1) + ")", x.head(side + 1), 2);
            due(10, "head(0)", x.head(0), 2);
            due(10, "current()", x.current(), side + 1);
            due(10, "the working map", working(x), "1=1 2=2");
            due(10, "commits()", x.commits(), 3);
        }
    }

    private static void mergeRefusals() {
        ChunkVersions x = forked();
        x.put(60, 1);
        String before = state(x);
        for (int branch : BAD_BRANCHES) {
            due(10, "merge(" + branch + ", 3)", x.merge(branch, 3), -1);
        }
        for (int side : BAD_SIDES) {
            due(10, "merge(1, " + side + ") when not clean", x.merge(1, side), -2);
        }
        due(10, "merge(1, 2) when not clean", x.merge(1, 2), -3);
        due(10, "merge(0, 0) of itself when not clean", x.merge(0, 0), -3);
        due(10, "merge(2, 0) of an ancestor when not clean", x.merge(2, 0), -3);
        due(10, "the state after refused merges", state(x), before);
    }

    private static void mergeWhenFull() {
        ChunkVersions x = forked();
        for (int made = 4; made < 20; made++) {
            x.commit();
        }
        String before = state(x);
        for (int side = 0; side < 3; side++) {
            due(10, "merge(1, " + side + ") with 20 commits", x.merge(1, side), -4);
        }
        due(10, "merge(2, 0) of an ancestor with 20 commits", x.merge(2, 0), 1000);
        due(10, "the state after merges with 20 commits", state(x), before);
        x.change(2);
        due(10, "merge(0, 2) of a descendant with 20 commits", x.merge(0, 2), 2000);
        due(10, "head(2)", x.head(2), 19);
        ChunkVersions last = forked();
        for (int made = 4; made < 19; made++) {
            last.commit();
        }
        due(10, "merge(1, 0) to the 20th commit", last.merge(1, 0), 4);
        due(10, "parent(19, 1)", last.parent(19, 1), 3);
    }

    private static void pickOrdinary() {
        for (int side = 0; side < 2; side++) {
            ChunkVersions x = forked();
            due(11, "pick(3, " + side + ")", x.pick(3, side), 4);
            due(11, "the picked map", map(x, 4), side == 0 ? MERGED_OURS : MERGED_THEIRS);
            due(11, "the working map", working(x), map(x, 4));
            due(11, "head(0)", x.head(0), 4);
            due(11, "head(1)", x.head(1), 3);
            due(11, "current()", x.current(), 0);
            due(11, "clean()", x.clean(), 1);
            due(11, "parent(4, 0)", x.parent(4, 0), 2);
            due(11, "parent(4, 1)", x.parent(4, 1), -2);
            due(11, "ancestors(4)", x.ancestors(4), 4);
            due(11, "base(4, 3)", x.base(4, 3), 1);
        }
        ChunkVersions x = withCommits(4);
        x.change(1);
        due(11, "pick(2, 2)", x.pick(2, 2), 0);
        due(11, "only what commit 2 did", map(x, 4), "2=2");
        due(11, "pick(2, 2) again", x.pick(2, 2), 0);
        due(11, "what commit 2 did twice", map(x, 5), "2=2");
        due(11, "parent(5, 0)", x.parent(5, 0), 4);
        due(11, "pick(5, 0) of the head", x.pick(5, 0), 0);
        due(11, "the map of commit 6", map(x, 6), "2=2");
    }

    private static void pickOfMerge() {
        ChunkVersions x = forked();
        x.merge(1, 1);
        x.change(2);
        due(11, "pick(4, 1) of a merge", x.pick(4, 1), 3);
        // From commit 2 to commit 4; the keys 1, 3 and 12 are conflicts, being changed there and absent here.
        due(11, "what the merge did to its first parent", map(x, 5), "1=301 3=303 4=304 10=310 12=312");
    }

    private static void pickRefusals() {
        ChunkVersions x = forked();
        String before = state(x);
        due(11, "pick(3, 2) with conflicts", x.pick(3, 2), -6);
        due(11, "pick(0, 0) without a parent", x.pick(0, 0), -5);
        due(11, "pick(0, 2) without a parent", x.pick(0, 2), -5);
        due(11, "the state after refused picks", state(x), before);
    }

    private static void pickWhenNotClean() {
        ChunkVersions x = forked();
        x.put(60, 1);
        String before = state(x);
        for (int commit : new int[] {-1, 4, 19, 20, LEAST, GREATEST}) {
            due(11, "pick(" + commit + ", 3)", x.pick(commit, 3), -1);
        }
        for (int side : BAD_SIDES) {
            due(11, "pick(3, " + side + ") when not clean", x.pick(3, side), -2);
        }
        due(11, "pick(3, 2) when not clean", x.pick(3, 2), -3);
        due(11, "pick(0, 0) when not clean", x.pick(0, 0), -3);
        due(11, "the state after refused picks", state(x), before);
    }

    private static void pickWhenFull() {
        ChunkVersions x = forked();
        for (int made = 4; made < 20; made++) {
            x.commit();
        }
        String before = state(x);
        due(11, "pick(3, 2) with 20 commits", x.pick(3, 2), -4);
        due(11, "pick(0, 0) with 20 commits", x.pick(0, 0), -4);
        due(11, "the state after picks with 20 commits", state(x), before);
        x.put(60, 1);
        due(11, "pick(3, 0) with 20 commits when not clean", x.pick(3, 0), -3);
        ChunkVersions last = withCommits(19);
        due(11, "pick(1, 0) to the 20th commit", last.pick(1, 0), 0);
        due(11, "commits()", last.commits(), 20);
    }

    private static void commitsAndCurrent() {
        ChunkVersions x = withCommits(20);
        due(12, "commits()", x.commits(), 20);
        x.commit();
        due(12, "commits() after a refused commit", x.commits(), 20);
        for (int branch = 3; branch >= 0; branch--) {
            x.change(branch);
            due(13, "current()", x.current(), branch);
        }
        x.branch(2);
        due(13, "current() after branch(2)", x.current(), 0);
    }

    private static void headAndParent() {
        ChunkVersions x = forked();
        due(14, "head(0)", x.head(0), 2);
        due(14, "head(1)", x.head(1), 3);
        due(14, "head(3)", x.head(3), 0);
        for (int branch : BAD_BRANCHES) {
            due(14, "head(" + branch + ")", x.head(branch), -1);
        }
        x.merge(1, 0);
        due(15, "parent(4, 0)", x.parent(4, 0), 2);
        for (int which : new int[] {1, 2, -1, LEAST, GREATEST}) {
            due(15, "parent(4, " + which + ")", x.parent(4, which), 3);
            due(15, "parent(3, " + which + ")", x.parent(3, which), -2);
            due(15, "parent(0, " + which + ")", x.parent(0, which), -2);
        }
        due(15, "parent(3, 0)", x.parent(3, 0), 1);
        due(15, "parent(1, 0)", x.parent(1, 0), 0);
        due(15, "parent(0, 0)", x.parent(0, 0), -2);
        for (int commit : new int[] {-1, 5, 20, LEAST, GREATEST}) {
            due(15, "parent(" + commit + ", 0)", x.parent(commit, 0), -1);
            due(15, "parent(" + commit + ", 1)", x.parent(commit, 1), -1);
        }
    }

    private static void clean() {
        ChunkVersions x = new ChunkVersions();
        x.put(63, 0);
        due(16, "clean() with the value 0 more", x.clean(), 0);
        x.commit();
        due(16, "clean() after commit()", x.clean(), 1);
        x.delete(63);
        due(16, "clean() with the value 0 less", x.clean(), 0);
        x.put(63, 1);
        due(16, "clean() with another value", x.clean(), 0);
        x.put(63, 0);
        due(16, "clean() with the value again", x.clean(), 1);
        x.put(0, 5);
        x.delete(0);
        due(16, "clean() after put and delete", x.clean(), 1);
        x.checkout(0);
        due(16, "clean() away from the head", x.clean(), 0);
    }

    private static void hasAndValue() {
        ChunkVersions x = new ChunkVersions();
        x.put(0, -5);
        x.put(63, 0);
        x.commit();
        x.put(1, GREATEST);
        x.delete(0);
        due(17, "has(0)", x.has(0), 0);
        due(17, "has(1)", x.has(1), 1);
        due(17, "has(63)", x.has(63), 1);
        due(18, "value(0)", x.value(0), 0);
        due(18, "value(1)", x.value(1), GREATEST);
        due(18, "value(63)", x.value(63), 0);
        due(19, "hasIn(1, 0)", x.hasIn(1, 0), 1);
        due(19, "hasIn(1, 1)", x.hasIn(1, 1), 0);
        due(19, "hasIn(1, 63)", x.hasIn(1, 63), 1);
        due(19, "hasIn(0, 0)", x.hasIn(0, 0), 0);
        due(20, "valueIn(1, 0)", x.valueIn(1, 0), -5);
        due(20, "valueIn(1, 1)", x.valueIn(1, 1), 0);
        due(20, "valueIn(1, 63)", x.valueIn(1, 63), 0);
        due(20, "valueIn(0, 0)", x.valueIn(0, 0), 0);
        x.spread(0, 64 + 63, 7);
        x.commit();
        for (int key : BAD_KEYS) {
            due(17, "has(" + key + ")", x.has(key), -1);
            due(18, "value(" + key + ")", x.value(key), 0);
            due(19, "hasIn(1, " + key + ")", x.hasIn(1, key), -2);
            due(20, "valueIn(1, " + key + ")", x.valueIn(1, key), 0);
            due(19, "hasIn(3, " + key + ")", x.hasIn(3, key), -1);
        }
        for (int commit : new int[] {-1, 3, 19, 20, 21, LEAST, GREATEST}) {
            due(19, "hasIn(" + commit + ", 5)", x.hasIn(commit, 5), -1);
            due(20, "valueIn(" + commit + ", 5)", x.valueIn(commit, 5), 0);
        }
    }

    private static void size() {
        ChunkVersions x = new ChunkVersions();
        x.put(0, 0);
        x.put(63, 1);
        x.commit();
        x.spread(0, 64 + 63, 0);
        due(21, "size(0)", x.size(0), 0);
        due(21, "size(1)", x.size(1), 2);
        x.commit();
        due(21, "size(2)", x.size(2), 64);
        for (int commit : new int[] {-1, 3, 20, LEAST, GREATEST}) {
            due(21, "size(" + commit + ")", x.size(commit), -1);
        }
    }

    private static void differences() {
        ChunkVersions x = new ChunkVersions();
        x.put(0, 0);
        x.put(5, 5);
        x.put(63, 63);
        x.commit();
        x.delete(0);
        x.put(5, 6);
        x.put(7, 0);
        x.commit();
        due(22, "differing(1, 2)", x.differing(1, 2), 3);
        due(22, "differing(2, 1)", x.differing(2, 1), 3);
        due(22, "differing(0, 1)", x.differing(0, 1), 3);
        due(22, "differing(2, 2)", x.differing(2, 2), 0);
        int[][] steps = {{LEAST, 0}, {-2, 0}, {-1, 0}, {0, 5}, {4, 5}, {5, 7}, {6, 7}, {7, -2}, {63, -2}, {64, -2}};
        for (int[] step : steps) {
            due(23, "nextDifference(1, 2, " + step[0] + ")", x.nextDifference(1, 2, step[0]), step[1]);
            due(23, "nextDifference(2, 1, " + step[0] + ")", x.nextDifference(2, 1, step[0]), step[1]);
        }
        due(23, "nextDifference(1, 2, GREATEST)", x.nextDifference(1, 2, GREATEST), -2);
        due(23, "nextDifference(0, 1, 62)", x.nextDifference(0, 1, 62), 63);
        due(23, "nextDifference(0, 1, 63)", x.nextDifference(0, 1, 63), -2);
        due(23, "nextDifference(1, 1, -1)", x.nextDifference(1, 1, -1), -2);
        for (int commit : new int[] {-1, 3, 20, LEAST, GREATEST}) {
            due(22, "differing(" + commit + ", 0)", x.differing(commit, 0), -1);
            due(22, "differing(0, " + commit + ")", x.differing(0, commit), -1);
            due(23, "nextDifference(" + commit + ", 0, 70)", x.nextDifference(commit, 0, 70), -1);
            due(23, "nextDifference(0, " + commit + ", -1)", x.nextDifference(0, commit, -1), -1);
        }
    }

    /** Commits 1 and 2 on branches 0 and 1, each merged into the other one's line: 3 of (1, 2), 4 of (2, 1). */
    private static ChunkVersions crossed() {
        ChunkVersions x = new ChunkVersions();
        x.put(1, 1);
        x.commit();
        x.branch(2);
        x.change(1);
        x.put(2, 2);
        x.commit();
        x.branch(3);
        x.change(0);
        x.merge(3, 2);
        x.change(1);
        x.merge(2, 2);
        return x;
    }

    private static void baseAndAncestors() {
        ChunkVersions x = crossed();
        due(24, "base(3, 4) of two common parents", x.base(3, 4), 2);
        due(24, "base(4, 3)", x.base(4, 3), 2);
        due(24, "base(1, 2)", x.base(1, 2), 0);
        due(24, "base(1, 4)", x.base(1, 4), 1);
        due(24, "base(3, 1)", x.base(3, 1), 1);
        due(24, "base(4, 4)", x.base(4, 4), 4);
        due(24, "base(0, 4)", x.base(0, 4), 0);
        due(25, "ancestors(0)", x.ancestors(0), 1);
        due(25, "ancestors(2)", x.ancestors(2), 2);
        due(25, "ancestors(3)", x.ancestors(3), 4);
        due(25, "ancestors(4)", x.ancestors(4), 4);
        due(10, "merge(0, 2) of crossed lines", x.merge(0, 2), 0);
        due(25, "ancestors(5)", x.ancestors(5), 6);
        for (int commit : new int[] {-1, 6, 20, LEAST, GREATEST}) {
            due(24, "base(" + commit + ", 0)", x.base(commit, 0), -1);
            due(24, "base(0, " + commit + ")", x.base(0, commit), -1);
            due(25, "ancestors(" + commit + ")", x.ancestors(commit), -1);
        }
        ChunkVersions line = withCommits(20);
        due(24, "base(19, 18)", line.base(19, 18), 18);
        due(25, "ancestors(19)", line.ancestors(19), 20);
    }

    private static void conflicts() {
        ChunkVersions x = forked();
        due(26, "conflicts(2, 3)", x.conflicts(2, 3), 4);
        due(26, "conflicts(3, 2)", x.conflicts(3, 2), 4);
        due(26, "conflicts(1, 3) along one line", x.conflicts(1, 3), 0);
        due(26, "conflicts(3, 0) along one line", x.conflicts(3, 0), 0);
        due(26, "conflicts(3, 3)", x.conflicts(3, 3), 0);
        x.merge(1, 0);
        due(26, "conflicts(4, 3) when merged", x.conflicts(4, 3), 0);
        for (int commit : new int[] {-1, 5, 20, LEAST, GREATEST}) {
            due(26, "conflicts(" + commit + ", 0)", x.conflicts(commit, 0), -1);
            due(26, "conflicts(0, " + commit + ")", x.conflicts(0, commit), -1);
        }
    }

    private static void wrappingValues() {
        ChunkVersions x = new ChunkVersions();
        due(27, "spread(0, 64 + 3, GREATEST - 1)", x.spread(0, 64 + 3, GREATEST - 1), 4);
        due(27, "the values", working(x), "0=2147483646 1=2147483647 2=-2147483648 3=-2147483647");
    }

    private static void questionsChangeNothing() {
        ChunkVersions x = forked();
        x.put(60, 6);
        String before = state(x);
        for (int a = -1; a <= 4; a++) {
            x.head(a);
            x.has(a);
            x.value(a);
            x.size(a);
            x.ancestors(a);
            for (int b = 3; b <= 4; b++) {
                x.parent(a, b);
                x.hasIn(a, b);
                x.valueIn(a, b);
                x.differing(a, b);
                x.nextDifference(a, b, 3);
                x.base(a, b);
                x.conflicts(a, b);
            }
        }
        due(26, "the state after questions", state(x), before);
    }

    public static void main(String[] args) {
        newObject();
        put();
        delete();
        spread();
        spreadRefusals();
        commit();
        reset();
        checkout();
        change();
        branch();
        mergeWithConflicts();
        oneConflict();
        mergeWithoutConflicts();
        mergeAlongOneLine();
        mergeRefusals();
        mergeWhenFull();
        pickOrdinary();
        pickOfMerge();
        pickRefusals();
        pickWhenNotClean();
        pickWhenFull();
        commitsAndCurrent();
        headAndParent();
        clean();
        hasAndValue();
        size();
        differences();
        baseAndAncestors();
        conflicts();
        wrappingValues();
        questionsChangeNothing();
        System.out.println(wrong == 0 ? "all answers are as due" : wrong + " answers are not as due");
        if (wrong != 0) {
            System.exit(1);
        }
    }
}
