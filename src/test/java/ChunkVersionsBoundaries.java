import java.lang.annotation.Retention;
import java.lang.annotation.RetentionPolicy;
import java.lang.reflect.InvocationTargetException;
import java.lang.reflect.Method;
import java.util.ArrayList;
import java.util.Arrays;
import java.util.Comparator;
import java.util.List;

/**
 * Every sentence of the document that names a boundary case, each with a test of its own. The words of the
 * sentence stand in Says before the test; main finds the tests by it, so that none can be forgotten.
 */
public final class ChunkVersionsBoundaries {
    @Retention(RetentionPolicy.RUNTIME)
    private @interface Says {
        /** Where the words stand: 0 before the promises, otherwise the promise's number. */
        int promise();

        String words();
    }

    private static final int LEAST = Integer.MIN_VALUE;
    private static final int GREATEST = Integer.MAX_VALUE;
    private static final int MOST_CALLS = 512;
    private static final int MOST_COMMITS = 20;

    private static final int[] BAD_KEYS = {-1, 64, LEAST, GREATEST};
    private static final int[] BAD_BRANCHES = {-1, 4, LEAST, GREATEST};
    private static final int[] BAD_SIDES = {-1, 3, LEAST, GREATEST};

    /** The steps 0 and 17 with the least and the greatest count, the ends of int, and negative plans. */
    private static final int[] BAD_PLANS = {0, 63, 1088, 1151, GREATEST, -1, -64, -65, LEAST, LEAST + 64};

    /** The plan that gives every key from first on a value. */
    private static final int EACH_KEY = 64 + 63;

    private static String told = "";
    private static int wrong = 0;
    private static int answersGiven = 0;

    /** The first number that is no commit, and ones that 32 bits or a row of maps could take for commit 0. */
    private static int[] badCommits(int commits) {
        return new int[] {-1, commits, LEAST, GREATEST, 32, 1 << 26};
    }

    private record Call(String method, int... args) {
        int on(ChunkVersions x) {
            int[] a = args;
            return switch (method) {
                case "put" -> x.put(a[0], a[1]);
                case "delete" -> x.delete(a[0]);
                case "spread" -> x.spread(a[0], a[1], a[2]);
                case "commit" -> x.commit();
                case "reset" -> x.reset();
                case "checkout" -> x.checkout(a[0]);
                case "change" -> x.change(a[0]);
                case "branch" -> x.branch(a[0]);
                case "merge" -> x.merge(a[0], a[1]);
                case "pick" -> x.pick(a[0], a[1]);
                case "commits" -> x.commits();
                case "current" -> x.current();
                case "head" -> x.head(a[0]);
                case "parent" -> x.parent(a[0], a[1]);
                case "clean" -> x.clean();
                case "has" -> x.has(a[0]);
                case "value" -> x.value(a[0]);
                case "hasIn" -> x.hasIn(a[0], a[1]);
                case "valueIn" -> x.valueIn(a[0], a[1]);
                case "size" -> x.size(a[0]);
                case "differing" -> x.differing(a[0], a[1]);
                case "nextDifference" -> x.nextDifference(a[0], a[1], a[2]);
                case "base" -> x.base(a[0], a[1]);
                case "ancestors" -> x.ancestors(a[0]);
                case "conflicts" -> x.conflicts(a[0], a[1]);
                default -> throw new IllegalArgumentException(method);
            };
        }

        @Override
        public String toString() {
            String list = Arrays.toString(args);
            return method + "(" + list.substring(1, list.length() - 1) + ")";
        }
    }

    private static void report(String what) {
        wrong++;
        System.out.println(told + ": " + what);
    }

    private static void due(String call, int got, int want) {
        answersGiven++;
        if (got != want) {
            report(call + " answered " + got + ", due is " + want);
        }
    }

    /** What may follow a call: it brings to light what a call has changed that no question tells yet. */
    private static final Call[] LATER = {
        new Call("reset"), new Call("put", 9, 9), new Call("commit"), new Call("branch", 3), new Call("put", 9, 8),
        new Call("commit"), new Call("change", 3), new Call("put", 9, 7), new Call("delete", 5), new Call("commit"),
        new Call("merge", 0, 1), new Call("pick", 1, 0), new Call("checkout", 1), new Call("delete", 1),
    };

    /** An object with the calls that were made on it, so that its state can be made again. */
    private static final class Run {
        private final ChunkVersions object = new ChunkVersions();
        private final List<Call> done = new ArrayList<>();
        private int made = 0;

        private int make(Call call) {
            made++;
            if (made > MOST_CALLS) {
                throw new IllegalStateException("the test makes more calls than an object is good for");
            }
            return call.on(object);
        }

        /** Makes a call on the way to the state that the test is about. */
        void does(String method, int... args) {
            Call call = new Call(method, args);
            done.add(call);
            make(call);
        }

        void gives(int want, String method, int... args) {
            Call call = new Call(method, args);
            done.add(call);
            due(call.toString(), make(call), want);
        }

        /** Makes a call that is refused, idle or a question: all stays as it was, now and some calls later. */
        void keeps(int want, String method, int... args) {
            Call call = new Call(method, args);
            due(call.toString(), make(call), want);
            List<Call> without = new ArrayList<>(done);
            List<Call> with = new ArrayList<>(done);
            with.add(call);
            compare("just after " + call, picture(without, MOST_CALLS), picture(with, MOST_CALLS));
            without.addAll(Arrays.asList(LATER));
            with.addAll(Arrays.asList(LATER));
            compare("some calls after " + call, picture(without, MOST_CALLS), picture(with, MOST_CALLS));
        }

        /** What the first commits' maps hold, each key by a line. */
        List<String> maps(int commits) {
            List<Call> questions = new ArrayList<>();
            for (int commit = 0; commit < commits; commit++) {
                askMap(questions, commit);
            }
            return answers(done, questions, MOST_CALLS);
        }
    }

    private static void compare(String when, List<String> before, List<String> after) {
        answersGiven++;
        for (int line = 0; line < Math.max(before.size(), after.size()); line++) {
            String want = line < before.size() ? before.get(line) : "nothing";
            String got = line < after.size() ? after.get(line) : "nothing";
            if (!got.equals(want)) {
                report(when + " there is " + got + ", before there was " + want);
                return;
            }
        }
    }

    private static ChunkVersions madeBy(List<Call> calls) {
        ChunkVersions x = new ChunkVersions();
        for (Call call : calls) {
            call.on(x);
        }
        return x;
    }

    /** The answers in the state that the calls lead to; no object is asked more than atOnce, nor than 512 calls. */
    private static List<String> answers(List<Call> calls, List<Call> questions, int atOnce) {
        List<String> lines = new ArrayList<>();
        int room = Math.min(atOnce, MOST_CALLS - calls.size());
        for (int from = 0; from < questions.size(); from += room) {
            ChunkVersions x = madeBy(calls);
            for (Call question : questions.subList(from, Math.min(from + room, questions.size()))) {
                lines.add(question + " = " + question.on(x));
            }
        }
        return lines;
    }

    private static void askMap(List<Call> questions, int commit) {
        for (int key = 0; key < 64; key++) {
            questions.add(new Call("hasIn", commit, key));
            questions.add(new Call("valueIn", commit, key));
        }
    }

    /** All that the questions can tell of the state that the calls lead to. */
    private static List<String> picture(List<Call> calls, int atOnce) {
        List<Call> questions = new ArrayList<>();
        questions.add(new Call("commits"));
        questions.add(new Call("current"));
        questions.add(new Call("clean"));
        for (int branch = 0; branch < 4; branch++) {
            questions.add(new Call("head", branch));
        }
        for (int key = 0; key < 64; key++) {
            questions.add(new Call("has", key));
            questions.add(new Call("value", key));
        }
        int commits = Math.min(MOST_COMMITS, madeBy(calls).commits());
        for (int commit = 0; commit < commits; commit++) {
            questions.add(new Call("parent", commit, 0));
            questions.add(new Call("parent", commit, 1));
            questions.add(new Call("ancestors", commit));
            for (int other = 0; other < commit; other++) {
                questions.add(new Call("base", commit, other));
            }
            askMap(questions, commit);
        }
        return answers(calls, questions, atOnce);
    }

    // The states that the tests start from.

    /** Commit c, for 1 .. commits - 1, gives key c the value c. All lie on branch 0, the others stay at commit 0. */
    private static Run line(int commits) {
        Run x = new Run();
        for (int commit = 1; commit < commits; commit++) {
            x.does("put", commit, commit);
            x.does("commit");
        }
        return x;
    }

    /**
     * Commit 1 and from it 2 on branch 0 (the current one) and 3 on branch 1; key 5 is a conflict of these.
     * The branches 2 and 3 stay at commit 0.
     */
    private static Run forked() {
        Run x = new Run();
        x.does("put", 5, 1);
        x.does("commit");
        x.does("branch", 1);
        x.does("put", 5, 2);
        x.does("commit");
        x.does("change", 1);
        x.does("put", 5, 3);
        x.does("commit");
        x.does("change", 0);
        return x;
    }

    private static Run forkedUnclean() {
        Run x = forked();
        x.does("put", 60, 6);
        return x;
    }

    private static void commitUpTo(Run x, int from, int commits) {
        for (int made = from; made < commits; made++) {
            x.does("commit");
        }
    }

    /** As forked, with commits of the same map on branch 0 until there are so many. */
    private static Run forkedWith(int commits) {
        Run x = forked();
        commitUpTo(x, 4, commits);
        return x;
    }

    /** Commit 1 is the full map with the values 100, 101, .. */
    private static Run fullMap() {
        Run x = new Run();
        x.does("spread", 0, EACH_KEY, 100);
        x.does("commit");
        return x;
    }

    /** The commits 1 (branch 0, current) and 2 (branch 1) on commit 0, which differ on every key. */
    private static Run forkedEverywhere() {
        Run x = fullMap();
        x.does("change", 1);
        x.does("spread", 0, EACH_KEY, 200);
        x.does("commit");
        x.does("change", 0);
        return x;
    }

    /** The commits 1 and 2 on the branches 0 and 1, then the merges 3 of (1, 2) and 4 of (2, 1), 4 being current. */
    private static Run crossed() {
        Run x = new Run();
        x.does("put", 1, 1);
        x.does("commit");
        x.does("branch", 2);
        x.does("change", 1);
        x.does("put", 2, 2);
        x.does("commit");
        x.does("branch", 3);
        x.does("change", 0);
        x.does("merge", 3, 2);
        x.does("change", 1);
        x.does("merge", 2, 2);
        return x;
    }

    // What a key can be in a map: absent, or one of three values. Three maps have 4 * 4 * 4 cases, one for a key.
    private static final int ABSENT = 0;
    private static final int[] CASE_VALUES = {0, 0, 7, -7};

    private static int inBase(int key) {
        return key / 16;
    }

    private static int inOurs(int key) {
        return key / 4 % 4;
    }

    private static int inTheirs(int key) {
        return key % 4;
    }

    private static void make(Run x, int key, int kind) {
        if (kind == ABSENT) {
            x.does("delete", key);
        } else {
            x.does("put", key, CASE_VALUES[kind]);
        }
    }

    /** Base 1, ours 2 (branch 0, current) and theirs 3 (branch 1) with every case of a merge, one at each key. */
    private static Run everyCase() {
        Run x = new Run();
        for (int key = 0; key < 64; key++) {
            make(x, key, inBase(key));
        }
        x.does("commit");
        x.does("branch", 1);
        for (int key = 0; key < 64; key++) {
            make(x, key, inOurs(key));
        }
        x.does("commit");
        x.does("change", 1);
        for (int key = 0; key < 64; key++) {
            make(x, key, inTheirs(key));
        }
        x.does("commit");
        x.does("change", 0);
        return x;
    }

    /** The states after each way to merge the cases; the result is commit 4. The side is the run's place % 2. */
    private static Run[] everyCaseMerged() {
        Run[] runs = {everyCase(), everyCase(), everyCase(), everyCase()};
        runs[0].does("merge", 1, 0);
        runs[1].does("merge", 1, 1);
        runs[2].does("pick", 3, 0);
        runs[3].does("pick", 3, 1);
        return runs;
    }

    private static void resultIs(Run x, int key, int kind) {
        x.gives(kind == ABSENT ? 0 : 1, "hasIn", 4, key);
        x.gives(CASE_VALUES[kind], "valueIn", 4, key);
        x.gives(kind == ABSENT ? 0 : 1, "has", key);
        x.gives(CASE_VALUES[kind], "value", key);
    }

    // The sentences before the promises.

    @Says(promise = 0, words = "An object is used for at most 512 calls after it has been made")
    private static void the512thCall() {
        Run x = new Run();
        Run y = new Run();
        for (int call = 1; call < MOST_CALLS; call++) {
            x.does("put", call % 64, call);
            y.does("put", call % 64, call);
        }
        x.gives(511, "value", 63);
        y.gives(1, "commit");
    }

    @Says(promise = 0, words = "what later calls answer is free")
    private static void laterCallsEnd() {
        int[] odd = {LEAST, -1, 0, 1, 2, 3, 19, 20, 63, 64, 127, 1087, 1 << 26, GREATEST};
        String[] three = {"spread", "nextDifference"};
        String[] two = {"put", "merge", "pick", "parent", "hasIn", "valueIn", "differing", "base", "conflicts"};
        String[] one = {"delete", "checkout", "change", "branch", "head", "has", "value", "size", "ancestors"};
        String[] none = {"commit", "reset", "commits", "current", "clean"};
        ChunkVersions x = new ChunkVersions();
        // Nothing is due here but that each call ends: main reports what is thrown.
        for (int first : odd) {
            for (int second : odd) {
                for (int third : odd) {
                    callEach(x, three, first, second, third);
                }
                callEach(x, two, first, second);
            }
            callEach(x, one, first);
            callEach(x, none);
        }
    }

    private static void callEach(ChunkVersions x, String[] methods, int... args) {
        for (String method : methods) {
            new Call(method, args).on(x);
        }
    }

    @Says(promise = 0, words = "A MAP gives some of the KEYS 0 .. 63 values (ints); the others are absent in it.")
    private static void keysOfMaps() {
        Run x = new Run();
        x.does("put", 0, 10);
        x.does("put", 63, 20);
        x.gives(1, "commit");
        x.gives(2, "size", 1);
        x.gives(10, "valueIn", 1, 0);
        x.gives(20, "valueIn", 1, 63);
        for (int key = 1; key < 63; key++) {
            x.gives(0, "hasIn", 1, key);
            x.gives(0, "valueIn", 1, key);
            x.gives(0, "has", key);
        }
    }

    @Says(promise = 0, words = "values (ints)")
    private static void valuesAreAnyInts() {
        Run x = new Run();
        int[] values = {LEAST, LEAST + 1, -2, -1, 0, 1, GREATEST - 1, GREATEST};
        for (int key = 0; key < values.length; key++) {
            x.gives(1, "put", key, values[key]);
        }
        x.does("commit");
        for (int key = 0; key < values.length; key++) {
            x.gives(1, "has", key);
            x.gives(values[key], "value", key);
            x.gives(1, "hasIn", 1, key);
            x.gives(values[key], "valueIn", 1, key);
        }
    }

    @Says(promise = 0, words = "COMMITS are numbered 0, 1, 2, .. in the order in which they are made")
    private static void commitsAreNumbered() {
        Run x = new Run();
        x.gives(1, "commit");
        x.does("change", 1);
        x.gives(2, "commit");
        x.gives(0, "merge", 0, 2);
        x.gives(3, "head", 1);
        x.gives(0, "pick", 1, 2);
        x.gives(4, "head", 1);
        x.does("change", 2);
        x.gives(5, "commit");
        x.gives(6, "commits");
    }

    @Says(promise = 0, words = "at most 20")
    private static void atMostTwentyCommits() {
        Run x = new Run();
        for (int commit = 1; commit < MOST_COMMITS; commit++) {
            x.gives(commit, "commit");
        }
        x.gives(20, "commits");
        x.keeps(-1, "commit");
        x.gives(20, "commits");
        x.does("change", 1);
        x.keeps(-1, "commit");
    }

    @Says(promise = 0, words = "each has a map, which never changes")
    private static void mapsNeverChange() {
        Run x = forkedEverywhere();
        List<String> before = x.maps(3);
        String[][] changes = {{"put", "3", "-3"}, {"delete", "0"}, {"delete", "63"}, {"spread", "1", "64", "9"},
            {"commit"}, {"checkout", "0"}, {"checkout", "2"}, {"reset"}, {"merge", "1", "1"}, {"pick", "1", "0"},
            {"put", "63", "0"}, {"commit"}, {"change", "1"}, {"delete", "5"}, {"reset"}, {"merge", "0", "0"},
            {"put", "4", "4"}, {"checkout", "1"}, {"delete", "4"}};
        for (String[] change : changes) {
            int[] args = Arrays.stream(change).skip(1).mapToInt(Integer::parseInt).toArray();
            x.does(change[0], args);
            compare("after " + new Call(change[0], args), before, x.maps(3));
        }
    }

    @Says(promise = 0, words = "no, one or two PARENTS, earlier commits")
    private static void noOneOrTwoParents() {
        Run x = forked();
        x.gives(-2, "parent", 0, 0);
        x.gives(-2, "parent", 0, 1);
        x.gives(1, "parent", 3, 0);
        x.gives(-2, "parent", 3, 1);
        x.does("merge", 1, 0);
        x.gives(2, "parent", 4, 0);
        x.gives(3, "parent", 4, 1);
        x.does("pick", 3, 0);
        x.gives(4, "parent", 5, 0);
        x.gives(-2, "parent", 5, 1);
    }

    @Says(promise = 0, words = "Commit 0 has the empty map and no parents.")
    private static void commitZero() {
        Run fresh = new Run();
        commitZeroIn(fresh);
        Run full = forkedEverywhere();
        full.does("merge", 1, 1);
        commitUpTo(full, 4, MOST_COMMITS);
        commitZeroIn(full);
    }

    private static void commitZeroIn(Run x) {
        x.gives(0, "size", 0);
        for (int key = 0; key < 64; key++) {
            x.gives(0, "hasIn", 0, key);
            x.gives(0, "valueIn", 0, key);
        }
        for (int which : new int[] {0, 1, -1, LEAST, GREATEST}) {
            x.gives(-2, "parent", 0, which);
        }
    }

    @Says(promise = 0, words = "A commit is an ANCESTOR of itself")
    private static void ancestorOfItself() {
        Run x = forkedWith(MOST_COMMITS);
        for (int commit = 0; commit < MOST_COMMITS; commit++) {
            x.gives(commit, "base", commit, commit);
        }
        x.gives(1, "ancestors", 0);
    }

    @Says(promise = 0, words = "of every commit that it is a parent of")
    private static void ancestorOfChildren() {
        Run x = forked();
        x.does("merge", 1, 0);
        x.gives(0, "base", 0, 1);
        x.gives(1, "base", 1, 2);
        x.gives(1, "base", 1, 3);
        x.gives(2, "base", 2, 4);
        // The second parent is one as well as the first.
        x.gives(3, "base", 3, 4);
        x.gives(5, "ancestors", 4);
    }

    @Says(promise = 0, words = "of every commit that one of these is an ancestor of")
    private static void ancestorOfDescendants() {
        Run x = line(MOST_COMMITS);
        for (int older = 0; older < MOST_COMMITS; older++) {
            x.gives(older + 1, "ancestors", older);
            x.gives(older, "base", older, 19);
            x.gives(older, "base", 19, older);
        }
        Run y = line(3);
        y.does("change", 1);
        y.does("put", 9, 9);
        y.does("commit");
        // Commit 4 merges 3 and 2: through its second parent 1 is an ancestor too.
        y.gives(0, "merge", 0, 2);
        y.gives(1, "base", 1, 4);
        y.gives(5, "ancestors", 4);
    }

    @Says(promise = 0, words = "There are four BRANCHES, 0 .. 3; each has a HEAD, a commit")
    private static void fourBranches() {
        Run x = new Run();
        for (int branch = 0; branch < 4; branch++) {
            x.gives(0, "change", branch);
            x.does("put", branch, branch);
            x.gives(branch + 1, "commit");
        }
        for (int branch = 0; branch < 4; branch++) {
            x.gives(branch + 1, "head", branch);
        }
        for (int branch : BAD_BRANCHES) {
            x.keeps(-1, "head", branch);
            x.keeps(-1, "change", branch);
        }
    }

    @Says(promise = 0, words = "all have commit 0 as head at first")
    private static void headsAtFirst() {
        Run x = new Run();
        for (int branch = 0; branch < 4; branch++) {
            x.gives(0, "head", branch);
        }
    }

    @Says(promise = 0, words = "One branch is CURRENT, branch 0 at first.")
    private static void currentAtFirst() {
        Run x = new Run();
        x.gives(0, "current");
        x.gives(1, "commit");
        x.gives(1, "head", 0);
    }

    @Says(promise = 0, words = "There is a WORKING MAP, empty at first")
    private static void workingMapAtFirst() {
        Run x = new Run();
        for (int key = 0; key < 64; key++) {
            x.gives(0, "has", key);
            x.gives(0, "value", key);
        }
        x.gives(1, "clean");
        x.gives(1, "commit");
        x.gives(0, "size", 1);
    }

    @Says(promise = 0, words = "it is CLEAN if it is the same as the map of the current branch's head")
    private static void cleanIfTheSame() {
        for (int key : new int[] {0, 31, 63}) {
            Run empty = new Run();
            cleanButFor(empty, key);
            Run full = fullMap();
            cleanButFor(full, key);
        }
    }

    private static void cleanButFor(Run x, int key) {
        x.gives(1, "clean");
        x.does("put", key, 0);
        x.gives(0, "clean");
        x.does("delete", key);
        x.does("commit");
        x.gives(1, "clean");
        x.does("put", key, 0);
        x.gives(0, "clean");
        x.does("commit");
        x.gives(1, "clean");
        x.does("put", key, LEAST);
        x.gives(0, "clean");
        x.does("put", key, 0);
        x.gives(1, "clean");
        x.does("delete", key);
        x.gives(0, "clean");
    }

    @Says(promise = 0, words = "the same as the map of the current branch's head")
    private static void cleanByTheMapAlone() {
        Run x = line(3);
        x.does("delete", 2);
        x.does("commit");
        // Commit 1 has the map of commit 3, the head; commit 2 has another one.
        x.does("checkout", 1);
        x.gives(1, "clean");
        x.gives(0, "change", 1);
        x.gives(1, "clean");
        // The map of another branch's head is not the one that counts.
        x.does("checkout", 3);
        x.gives(0, "clean");
    }

    @Says(promise = 0, words = "THE BASE of two commits is the common ancestor of both with the greatest number.")
    private static void baseIsTheGreatest() {
        Run x = crossed();
        x.gives(2, "base", 3, 4);
        x.gives(2, "base", 4, 3);
        x.gives(0, "base", 1, 2);
        x.gives(1, "base", 1, 3);
        x.gives(1, "base", 4, 1);
        x.gives(0, "base", 0, 4);
        x.gives(0, "base", 0, 0);
        Run full = forkedWith(MOST_COMMITS);
        full.gives(1, "base", 19, 3);
        full.gives(18, "base", 18, 19);
        full.gives(19, "base", 19, 19);
    }

    @Says(promise = 0, words = "if a and b agree on it (both absent, or the same value), the result is that")
    private static void mergingWhereBothAgree() {
        for (Run x : everyCaseMerged()) {
            for (int key = 0; key < 64; key++) {
                if (inOurs(key) == inTheirs(key)) {
                    resultIs(x, key, inOurs(key));
                }
            }
        }
    }

    @Says(promise = 0, words = "otherwise, if a agrees with o on it, the result is as in b")
    private static void mergingWhereTheirsChanged() {
        for (Run x : everyCaseMerged()) {
            for (int key = 0; key < 64; key++) {
                if (inOurs(key) != inTheirs(key) && inOurs(key) == inBase(key)) {
                    resultIs(x, key, inTheirs(key));
                }
            }
        }
    }

    @Says(promise = 0, words = "otherwise, if b agrees with o, as in a")
    private static void mergingWhereOursChanged() {
        for (Run x : everyCaseMerged()) {
            for (int key = 0; key < 64; key++) {
                if (inOurs(key) != inTheirs(key) && inTheirs(key) == inBase(key)) {
                    resultIs(x, key, inOurs(key));
                }
            }
        }
    }

    private static boolean isConflict(int key) {
        return inOurs(key) != inTheirs(key) && inOurs(key) != inBase(key) && inTheirs(key) != inBase(key);
    }

    @Says(promise = 0, words = "otherwise the key is a CONFLICT, and the result is as in a or as in b, by the side")
    private static void mergingAtConflicts() {
        Run[] runs = everyCaseMerged();
        for (int run = 0; run < runs.length; run++) {
            for (int key = 0; key < 64; key++) {
                if (isConflict(key)) {
                    resultIs(runs[run], key, run % 2 == 0 ? inOurs(key) : inTheirs(key));
                }
            }
        }
    }

    @Says(promise = 0, words = "otherwise the key is a CONFLICT")
    private static void conflictsAreCounted() {
        // Of 4 * 4 * 4 cases, 4 * 3 * 2 have three that are all unlike.
        Run x = everyCase();
        x.gives(24, "conflicts", 2, 3);
        x.keeps(-5, "merge", 1, 2);
        x.keeps(-6, "pick", 3, 2);
        for (int side = 0; side < 2; side++) {
            Run y = everyCase();
            y.gives(24, "merge", 1, side);
            Run z = everyCase();
            z.gives(24, "pick", 3, side);
        }
    }

    @Says(promise = 0, words = "No question changes anything.")
    private static void questionsChangeNothing() {
        for (Run x : new Run[] {new Run(), forkedUnclean(), forkedEverywhere(), forkedWith(MOST_COMMITS)}) {
            // One question for an object: many could hide what one of them changes.
            List<String> before = picture(x.done, 1);
            for (Call question : questionsOfEachKind()) {
                List<Call> with = new ArrayList<>(x.done);
                with.add(question);
                compare("just after " + question, before, picture(with, 1));
            }
        }
    }

    private static List<Call> questionsOfEachKind() {
        List<Call> questions = new ArrayList<>();
        for (String method : new String[] {"commits", "current", "clean"}) {
            questions.add(new Call(method));
        }
        for (int first : new int[] {-1, 2, 5, 64}) {
            for (String method : new String[] {"head", "has", "value", "size", "ancestors"}) {
                questions.add(new Call(method, first));
            }
        }
        for (int[] pair : new int[][] {{0, 1}, {2, 0}, {2, 5}, {-1, 0}, {0, 64}}) {
            for (String method : new String[] {"parent", "hasIn", "valueIn", "differing", "base", "conflicts"}) {
                questions.add(new Call(method, pair));
            }
            questions.add(new Call("nextDifference", pair[0], pair[1], -1));
            questions.add(new Call("nextDifference", pair[0], pair[1], GREATEST));
        }
        return questions;
    }

    @Says(promise = 0, words = "A refused call changes nothing.")
    private static void refusedCallsChangeNothing() {
        Run unclean = forkedUnclean();
        unclean.keeps(-1, "put", 64, 1);
        unclean.keeps(-1, "delete", -1);
        unclean.keeps(-1, "spread", 64, EACH_KEY, 1);
        unclean.keeps(-2, "spread", 0, 17 * 64, 1);
        unclean.keeps(-1, "checkout", 4);
        unclean.keeps(-1, "change", 4);
        unclean.keeps(-2, "change", 1);
        unclean.keeps(-1, "branch", 4);
        unclean.keeps(-2, "branch", 0);
        unclean.keeps(-1, "merge", 4, 0);
        unclean.keeps(-2, "merge", 1, 3);
        unclean.keeps(-3, "merge", 1, 0);
        unclean.keeps(-1, "pick", 4, 0);
        unclean.keeps(-2, "pick", 3, 3);
        unclean.keeps(-3, "pick", 3, 0);
        Run clean = forked();
        clean.keeps(-5, "merge", 1, 2);
        clean.keeps(-5, "pick", 0, 1);
        clean.keeps(-6, "pick", 3, 2);
        Run full = forkedWith(MOST_COMMITS);
        full.keeps(-1, "commit");
        full.keeps(-4, "merge", 1, 1);
        full.keeps(-4, "pick", 3, 1);
    }

    @Says(promise = 0, words = "a key is good if it is 0 .. 63")
    private static void goodKeys() {
        for (int key : new int[] {0, 63}) {
            Run x = new Run();
            x.gives(1, "put", key, 8);
            x.gives(1, "has", key);
            x.gives(8, "value", key);
            x.does("commit");
            x.gives(1, "hasIn", 1, key);
            x.gives(8, "valueIn", 1, key);
            x.gives(1, "delete", key);
            x.gives(1, "spread", key, 64, 9);
            x.gives(9, "value", key);
        }
        for (Run x : new Run[] {new Run(), fullMap()}) {
            for (int key : BAD_KEYS) {
                x.keeps(-1, "put", key, 8);
                x.keeps(-1, "delete", key);
                x.keeps(-1, "spread", key, 64, 8);
                x.keeps(-1, "has", key);
                x.keeps(0, "value", key);
                x.keeps(-2, "hasIn", 0, key);
                x.keeps(0, "valueIn", 0, key);
            }
        }
    }

    @Says(promise = 0, words = "a commit if there is such a commit")
    private static void goodCommits() {
        for (int commits : new int[] {1, 2, 19, 20}) {
            Run x = line(commits);
            for (int commit : badCommits(commits)) {
                badCommit(x, commit);
            }
            goodCommit(x, commits - 1);
            goodCommit(x, 0);
        }
    }

    private static void badCommit(Run x, int commit) {
        x.keeps(-1, "checkout", commit);
        x.keeps(-1, "pick", commit, 0);
        x.keeps(-1, "parent", commit, 0);
        x.keeps(-1, "hasIn", commit, 0);
        x.keeps(0, "valueIn", commit, 1);
        x.keeps(-1, "size", commit);
        x.keeps(-1, "differing", commit, 0);
        x.keeps(-1, "differing", 0, commit);
        x.keeps(-1, "nextDifference", commit, 0, -1);
        x.keeps(-1, "nextDifference", 0, commit, -1);
        x.keeps(-1, "base", commit, 0);
        x.keeps(-1, "base", 0, commit);
        x.keeps(-1, "ancestors", commit);
        x.keeps(-1, "conflicts", commit, 0);
        x.keeps(-1, "conflicts", 0, commit);
    }

    /** Of a line of commits, each of which has a key more. */
    private static void goodCommit(Run x, int commit) {
        x.gives(commit, "size", commit);
        x.gives(commit == 0 ? -2 : commit - 1, "parent", commit, 0);
        x.gives(commit == 0 ? 0 : 1, "hasIn", commit, commit);
        x.gives(commit, "valueIn", commit, commit);
        x.gives(commit, "differing", commit, 0);
        x.gives(commit == 0 ? -2 : 1, "nextDifference", 0, commit, -1);
        x.gives(commit, "base", commit, commit);
        x.gives(commit + 1, "ancestors", commit);
        x.gives(0, "conflicts", commit, 0);
        x.does("checkout", 0);
        x.gives(commit, "checkout", commit);
    }

    @Says(promise = 0, words = "a branch if it is 0 .. 3")
    private static void goodBranches() {
        for (int branch : new int[] {0, 3}) {
            Run x = line(2);
            x.does("change", 1);
            x.gives(branch == 0 ? 1 : 0, "head", branch);
            x.gives(branch == 0 ? 2000 : 1000, "merge", branch, 0);
            x.gives(branch == 0 ? 1 : 0, "branch", branch);
            x.gives(branch == 0 ? 1 : 0, "change", branch);
            x.gives(branch, "current");
        }
        Run y = forked();
        for (int branch : BAD_BRANCHES) {
            y.keeps(-1, "change", branch);
            y.keeps(-1, "branch", branch);
            y.keeps(-1, "merge", branch, 0);
            y.keeps(-1, "head", branch);
        }
    }

    // "In every method the tests are made in the order named": where two reasons can hold at once, pair by pair.

    private static final String ORDER = "In every method the tests are made in the order named";

    @Says(promise = 4, words = ORDER)
    private static void orderInSpread() {
        Run x = forkedUnclean();
        for (int key : BAD_KEYS) {
            for (int plan : BAD_PLANS) {
                x.keeps(-1, "spread", key, plan, 1);
            }
        }
    }

    @Says(promise = 8, words = ORDER)
    private static void orderInChange() {
        Run x = forkedUnclean();
        for (int branch : BAD_BRANCHES) {
            x.keeps(-1, "change", branch);
        }
    }

    @Says(promise = 10, words = ORDER + ": -1")
    private static void orderInMergeBadBranch() {
        Run unclean = forkedUnclean();
        Run clean = forked();
        Run full = forkedWith(MOST_COMMITS);
        for (int branch : BAD_BRANCHES) {
            for (int side : BAD_SIDES) {
                clean.keeps(-1, "merge", branch, side);
                unclean.keeps(-1, "merge", branch, side);
            }
            unclean.keeps(-1, "merge", branch, 0);
            full.keeps(-1, "merge", branch, 2);
        }
    }

    @Says(promise = 10, words = ORDER + ": -2")
    private static void orderInMergeBadSide() {
        Run unclean = forkedUnclean();
        Run clean = forked();
        Run full = forkedWith(MOST_COMMITS);
        for (int side : BAD_SIDES) {
            unclean.keeps(-2, "merge", 1, side);
            // Branch 2 is an ancestor, and branch 0 the current one itself.
            clean.keeps(-2, "merge", 2, side);
            clean.keeps(-2, "merge", 0, side);
            full.keeps(-2, "merge", 1, side);
            Run behind = forked();
            behind.does("change", 2);
            behind.keeps(-2, "merge", 0, side);
        }
    }

    @Says(promise = 10, words = ORDER + ": -3")
    private static void orderInMergeUnclean() {
        Run unclean = forkedUnclean();
        Run full = forkedWith(MOST_COMMITS);
        full.does("delete", 5);
        Run behind = forked();
        behind.does("change", 2);
        behind.does("put", 63, 0);
        for (int side = 0; side < 3; side++) {
            unclean.keeps(-3, "merge", 0, side);
            unclean.keeps(-3, "merge", 1, side);
            unclean.keeps(-3, "merge", 2, side);
            full.keeps(-3, "merge", 1, side);
            full.keeps(-3, "merge", 2, side);
            behind.keeps(-3, "merge", 0, side);
        }
    }

    @Says(promise = 10, words = ORDER + ": 1000 and 2000")
    private static void orderInMergeOneLine() {
        for (int side = 0; side < 3; side++) {
            Run full = forkedWith(MOST_COMMITS);
            full.keeps(1000, "merge", 0, side);
            full.keeps(1000, "merge", 2, side);
            full.does("change", 2);
            full.gives(2000, "merge", 0, side);
            full.gives(19, "head", 2);
            full.gives(20, "commits");
        }
    }

    @Says(promise = 10, words = ORDER + ": -4")
    private static void orderInMergeFull() {
        Run full = forkedWith(MOST_COMMITS);
        full.gives(1, "conflicts", 19, 3);
        full.keeps(-4, "merge", 1, 2);
    }

    @Says(promise = 11, words = ORDER + ": -1")
    private static void orderInPickBadCommit() {
        Run clean = forked();
        Run unclean = forkedUnclean();
        Run full = forkedWith(MOST_COMMITS);
        for (int side : BAD_SIDES) {
            for (int commit : badCommits(4)) {
                clean.keeps(-1, "pick", commit, side);
                unclean.keeps(-1, "pick", commit, side);
            }
        }
        for (int commit : badCommits(4)) {
            unclean.keeps(-1, "pick", commit, 0);
        }
        for (int commit : badCommits(MOST_COMMITS)) {
            full.keeps(-1, "pick", commit, 2);
        }
    }

    @Says(promise = 11, words = ORDER + ": -2")
    private static void orderInPickBadSide() {
        Run clean = forked();
        Run unclean = forkedUnclean();
        Run full = forkedWith(MOST_COMMITS);
        for (int side : BAD_SIDES) {
            unclean.keeps(-2, "pick", 3, side);
            full.keeps(-2, "pick", 3, side);
            clean.keeps(-2, "pick", 0, side);
        }
    }

    @Says(promise = 11, words = ORDER + ": -3")
    private static void orderInPickUnclean() {
        Run unclean = forkedUnclean();
        Run full = forkedWith(MOST_COMMITS);
        full.does("put", 63, 0);
        for (int side = 0; side < 3; side++) {
            unclean.keeps(-3, "pick", 0, side);
            unclean.keeps(-3, "pick", 3, side);
            full.keeps(-3, "pick", 3, side);
            full.keeps(-3, "pick", 0, side);
        }
    }

    @Says(promise = 11, words = ORDER + ": -4")
    private static void orderInPickFull() {
        Run full = forkedWith(MOST_COMMITS);
        for (int side = 0; side < 3; side++) {
            full.keeps(-4, "pick", 0, side);
        }
        // Key 5 would be a conflict.
        full.keeps(-4, "pick", 3, 2);
    }

    @Says(promise = 15, words = ORDER)
    private static void orderInParent() {
        Run x = forked();
        for (int commit : badCommits(4)) {
            for (int which : new int[] {0, 1, -1, LEAST, GREATEST}) {
                x.keeps(-1, "parent", commit, which);
            }
        }
    }

    @Says(promise = 19, words = ORDER)
    private static void orderInHasIn() {
        Run x = forked();
        for (int commit : badCommits(4)) {
            for (int key : BAD_KEYS) {
                x.keeps(-1, "hasIn", commit, key);
            }
        }
    }

    @Says(promise = 23, words = ORDER)
    private static void orderInNextDifference() {
        Run x = forked();
        for (int commit : badCommits(4)) {
            for (int after : new int[] {63, 64, GREATEST}) {
                x.keeps(-1, "nextDifference", commit, 2, after);
                x.keeps(-1, "nextDifference", 2, commit, after);
            }
            x.keeps(-1, "nextDifference", commit, commit, -1);
        }
    }

    // The promises.

    @Says(promise = 1, words = "Everything as said above.")
    private static void aNewObject() {
        Run x = new Run();
        x.gives(1, "commits");
        x.gives(0, "current");
        x.gives(1, "clean");
        x.gives(0, "size", 0);
        x.gives(1, "ancestors", 0);
        x.gives(-2, "parent", 0, 0);
        x.gives(-2, "parent", 0, 1);
        for (int branch = 0; branch < 4; branch++) {
            x.gives(0, "head", branch);
        }
        x.gives(-1, "size", 1);
        x.gives(0, "reset");
        x.gives(0, "checkout", 0);
        x.gives(0, "differing", 0, 0);
        x.gives(-2, "nextDifference", 0, 0, -1);
        x.gives(0, "base", 0, 0);
        x.gives(0, "conflicts", 0, 0);
        x.gives(1000, "merge", 1, 2);
        x.gives(-5, "pick", 0, 0);
    }

    @Says(promise = 1, words = "Everything as said above.")
    private static void objectsStandApart() {
        Run x = forkedWith(MOST_COMMITS);
        Run y = new Run();
        y.gives(1, "commits");
        y.gives(0, "head", 0);
        y.gives(0, "has", 5);
        y.gives(1, "put", 5, 9);
        y.gives(1, "commit");
        x.gives(2, "value", 5);
        x.gives(20, "commits");
    }

    @Says(promise = 2, words = "-1 if key is not good")
    private static void putOfABadKey() {
        for (Run x : new Run[] {new Run(), forkedUnclean(), fullMap()}) {
            for (int key : BAD_KEYS) {
                x.keeps(-1, "put", key, 0);
                x.keeps(-1, "put", key, LEAST);
                x.keeps(-1, "put", key, GREATEST);
            }
        }
    }

    @Says(promise = 2, words = "otherwise 1 if it was absent before")
    private static void putOfAnAbsentKey() {
        Run x = new Run();
        for (int key = 0; key < 64; key++) {
            x.gives(1, "put", key, 0);
        }
        x.does("commit");
        x.gives(64, "size", 1);
        x.does("delete", 63);
        // There in the head's map, but absent in the working map.
        x.gives(1, "put", 63, 0);
    }

    @Says(promise = 2, words = "else 0")
    private static void putOfAKeyThatIsThere() {
        Run x = fullMap();
        for (int key = 0; key < 64; key++) {
            x.gives(0, "put", key, key == 0 ? 0 : LEAST);
        }
        x.gives(0, "put", 0, 0);
        x.gives(0, "value", 0);
        x.gives(LEAST, "value", 63);
        x.gives(100, "valueIn", 1, 0);
    }

    @Says(promise = 3, words = "-1 if key is not good")
    private static void deleteOfABadKey() {
        for (Run x : new Run[] {new Run(), forkedUnclean(), fullMap()}) {
            for (int key : BAD_KEYS) {
                x.keeps(-1, "delete", key);
            }
        }
    }

    @Says(promise = 3, words = "otherwise 1 if it was there before")
    private static void deleteOfAKeyThatIsThere() {
        Run x = new Run();
        x.does("spread", 0, EACH_KEY, 0);
        for (int key = 0; key < 64; key++) {
            x.gives(1, "delete", key);
            x.gives(0, "has", key);
            x.gives(0, "value", key);
        }
        // The empty map again.
        x.gives(1, "clean");
    }

    @Says(promise = 3, words = "else 0")
    private static void deleteOfAnAbsentKey() {
        Run x = new Run();
        for (int key = 0; key < 64; key++) {
            x.keeps(0, "delete", key);
        }
        Run y = fullMap();
        y.gives(1, "delete", 0);
        y.gives(1, "delete", 63);
        // Absent in the working map, though there in the head's.
        y.keeps(0, "delete", 0);
        y.keeps(0, "delete", 63);
        y.gives(1, "hasIn", 1, 63);
    }

    private static int stepOf(int plan) {
        return plan / 64;
    }

    private static int countOf(int plan) {
        return plan % 64 + 1;
    }

    /** How many keys first, first + step, .. are good, and count of them at most. */
    private static int keysGiven(int first, int plan) {
        int given = 0;
        for (int key = first; key <= 63 && given < countOf(plan); key += stepOf(plan)) {
            given++;
        }
        return given;
    }

    private static void spreadIs(int first, int plan, int value) {
        Run x = new Run();
        int given = keysGiven(first, plan);
        x.gives(given, "spread", first, plan, value);
        for (int key = 0; key < 64; key++) {
            int place = (key - first) / stepOf(plan);
            boolean there = key >= first && (key - first) % stepOf(plan) == 0 && place < given;
            x.gives(there ? 1 : 0, "has", key);
            x.gives(there ? value + place : 0, "value", key);
        }
    }

    @Says(promise = 4, words = "Gives the keys first, first + step, first + 2 * step, .. that are good")
    private static void spreadEndsAtTheLastKey() {
        int[][] cases = {{63, 64 + 63, 1}, {63, 1024 + 63, 1}, {62, 64 + 63, 2}, {47, 1024 + 63, 2}, {48, 1024 + 63, 1},
            {0, 1024 + 63, 4}, {15, 1024 + 63, 4}, {0, EACH_KEY, 64}, {1, EACH_KEY, 63}, {0, 64 * 9 + 63, 8}};
        for (int[] c : cases) {
            due("the keys by the test's own count", keysGiven(c[0], c[1]), c[2]);
            spreadIs(c[0], c[1], 1);
        }
    }

    @Says(promise = 4, words = "count of them at most")
    private static void spreadEndsAtTheCount() {
        int[][] cases = {{0, 64, 1}, {63, 64, 1}, {0, 1024, 1}, {0, 64 + 1, 2}, {0, 64 + 62, 63}, {1, 64 + 62, 63},
            {1, 64 + 61, 62}, {0, 1024 + 2, 3}, {0, 1024 + 3, 4}, {0, 1024 + 4, 4}};
        for (int[] c : cases) {
            due("the keys by the test's own count", keysGiven(c[0], c[1]), c[2]);
            spreadIs(c[0], c[1], -1);
        }
    }

    @Says(promise = 4, words = "-1 if first is not good")
    private static void spreadFromABadKey() {
        for (Run x : new Run[] {new Run(), forkedUnclean(), fullMap()}) {
            for (int key : BAD_KEYS) {
                x.keeps(-1, "spread", key, 64, 1);
                x.keeps(-1, "spread", key, 1087, 1);
            }
            // Its second key would be good.
            x.keeps(-1, "spread", -16, 1087, 1);
        }
    }

    @Says(promise = 4, words = "-2 if step is not in 1 .. 16")
    private static void spreadByABadStep() {
        for (Run x : new Run[] {new Run(), forkedUnclean(), fullMap()}) {
            for (int first : new int[] {0, 63}) {
                for (int plan : new int[] {0, 63, 1088, 1151, GREATEST - 63, GREATEST}) {
                    x.keeps(-2, "spread", first, plan, 1);
                }
            }
        }
        spreadIs(0, 64, 1);
        spreadIs(0, 64 + 63, 1);
        spreadIs(0, 1024, 1);
        spreadIs(0, 1087, 1);
    }

    @Says(promise = 4, words = "-3 if count is not in 1 .. 64")
    private static void spreadNeverHasABadCount() {
        // A plan can tell no count but 1 .. 64: each one from step 1 and count 1 to step 16 and count 64 is done.
        for (int plan = 64; plan <= 1087; plan++) {
            spreadIs(0, plan, plan);
        }
    }

    @Says(promise = 4, words = "negative plans are the case of")
    private static void spreadByANegativePlan() {
        for (Run x : new Run[] {new Run(), forkedUnclean(), fullMap()}) {
            for (int plan : new int[] {-1, -63, -64, -65, -1087, LEAST, LEAST + 63, LEAST + 64, LEAST + 1087}) {
                x.keeps(-2, "spread", 0, plan, 1);
            }
        }
    }

    @Says(promise = 4, words = "otherwise answers how many keys got a value")
    private static void spreadOverKeysThatAreThere() {
        Run x = fullMap();
        x.gives(64, "spread", 0, EACH_KEY, 100);
        x.gives(1, "clean");
        x.gives(4, "spread", 15, 1087, 0);
        x.gives(3, "value", 63);
        x.gives(64, "spread", 0, EACH_KEY, 500);
        x.gives(500, "value", 0);
        x.gives(563, "value", 63);
    }

    @Says(promise = 5, words = "-1 if there are 20 commits")
    private static void commitOfTheTwentyFirst() {
        Run clean = line(MOST_COMMITS);
        clean.keeps(-1, "commit");
        Run unclean = line(MOST_COMMITS);
        unclean.does("put", 63, 0);
        unclean.keeps(-1, "commit");
        unclean.gives(0, "clean");
        unclean.gives(19, "head", 0);
        Run empty = line(MOST_COMMITS);
        empty.does("change", 3);
        empty.keeps(-1, "commit");
    }

    @Says(promise = 5, words = "otherwise answers its number")
    private static void commitOfTheFirstAndTheLast() {
        Run x = line(19);
        x.does("put", 63, 7);
        x.gives(19, "commit");
        x.gives(20, "commits");
        x.gives(19, "head", 0);
        x.gives(18, "parent", 19, 0);
        x.gives(-2, "parent", 19, 1);
        x.gives(19, "size", 19);
        x.gives(7, "valueIn", 19, 63);
        Run y = new Run();
        y.does("spread", 0, EACH_KEY, LEAST);
        y.gives(1, "commit");
        y.gives(64, "size", 1);
    }

    @Says(promise = 5, words = "(Also if the working map is clean.)")
    private static void commitOfACleanMap() {
        Run x = new Run();
        x.gives(1, "clean");
        x.gives(1, "commit");
        x.gives(0, "size", 1);
        x.gives(0, "parent", 1, 0);
        x.gives(0, "differing", 0, 1);
        Run y = fullMap();
        y.gives(2, "commit");
        y.gives(64, "size", 2);
        y.gives(0, "differing", 1, 2);
    }

    @Says(promise = 6, words = "Answers on how many keys it differed.")
    private static void resetCounts() {
        Run empty = new Run();
        empty.keeps(0, "reset");
        empty.does("spread", 0, EACH_KEY, -5);
        empty.gives(64, "reset");
        empty.gives(1, "clean");
        empty.keeps(0, "reset");
        Run full = fullMap();
        full.keeps(0, "reset");
        full.does("spread", 0, EACH_KEY, 101);
        full.gives(64, "reset");
        full.does("checkout", 0);
        full.gives(64, "reset");
        full.gives(163, "value", 63);
    }

    @Says(promise = 6, words = "The working map becomes that of the current branch's head.")
    private static void resetOfOneKey() {
        for (int key : new int[] {0, 63}) {
            Run x = new Run();
            x.does("put", key, 0);
            x.gives(1, "reset");
            x.gives(0, "has", key);
            x.does("put", key, 0);
            x.does("commit");
            x.does("delete", key);
            x.gives(1, "reset");
            x.gives(1, "has", key);
            x.does("put", key, 1);
            x.gives(1, "reset");
            x.gives(0, "value", key);
            x.gives(1, "clean");
        }
    }

    @Says(promise = 7, words = "-1 if commit is not good")
    private static void checkoutOfABadCommit() {
        for (int commits : new int[] {1, 4, 20}) {
            Run x = line(commits);
            x.does("put", 40, 4);
            for (int commit : badCommits(commits)) {
                x.keeps(-1, "checkout", commit);
            }
        }
    }

    @Says(promise = 7, words = "otherwise answers on how many keys it changed")
    private static void checkoutCounts() {
        Run x = forkedEverywhere();
        x.keeps(0, "checkout", 1);
        x.gives(64, "checkout", 2);
        x.gives(64, "checkout", 0);
        x.gives(64, "checkout", 1);
        x.does("delete", 0);
        x.does("put", 63, 0);
        x.gives(2, "checkout", 1);
        Run last = line(MOST_COMMITS);
        last.gives(19, "checkout", 0);
        last.gives(19, "checkout", 19);
    }

    @Says(promise = 7, words = "(head and branch stay)")
    private static void checkoutStays() {
        Run x = forked();
        x.gives(1, "checkout", 3);
        x.gives(3, "value", 5);
        x.gives(0, "current");
        x.gives(2, "head", 0);
        x.gives(3, "head", 1);
        x.gives(0, "clean");
        x.gives(4, "commits");
    }

    @Says(promise = 8, words = "-1 if branch is not good")
    private static void changeToABadBranch() {
        for (Run x : new Run[] {new Run(), forked(), forkedWith(MOST_COMMITS)}) {
            for (int branch : BAD_BRANCHES) {
                x.keeps(-1, "change", branch);
            }
        }
    }

    @Says(promise = 8, words = "-2 if the working map is not clean")
    private static void changeWhenNotClean() {
        Run x = new Run();
        x.does("put", 0, 0);
        Run y = forked();
        y.does("delete", 5);
        Run z = fullMap();
        z.does("put", 63, 0);
        // Unclean too where the working map is that of the other branch's head.
        Run w = forked();
        w.does("checkout", 3);
        for (int branch = 0; branch < 4; branch++) {
            x.keeps(-2, "change", branch);
            y.keeps(-2, "change", branch);
            z.keeps(-2, "change", branch);
            w.keeps(-2, "change", branch);
        }
    }

    @Says(promise = 8, words = "otherwise answers its head")
    private static void changeAnswersTheHead() {
        Run x = forkedWith(MOST_COMMITS);
        x.gives(3, "change", 1);
        x.gives(1, "current");
        x.gives(3, "value", 5);
        x.gives(0, "change", 3);
        x.gives(0, "has", 5);
        x.gives(19, "change", 0);
        x.gives(2, "value", 5);
        x.keeps(19, "change", 0);
    }

    @Says(promise = 9, words = "-1 if branch is not good")
    private static void branchOfABadBranch() {
        for (Run x : new Run[] {new Run(), forked(), forkedUnclean(), forkedWith(MOST_COMMITS)}) {
            for (int branch : BAD_BRANCHES) {
                x.keeps(-1, "branch", branch);
            }
        }
    }

    @Says(promise = 9, words = "-2 if it is the current one")
    private static void branchOfTheCurrentOne() {
        for (int branch = 0; branch < 4; branch++) {
            Run x = forked();
            x.does("change", branch);
            x.keeps(-2, "branch", branch);
            x.does("put", 63, 0);
            x.keeps(-2, "branch", branch);
        }
    }

    @Says(promise = 9, words = "otherwise answers its head before")
    private static void branchAnswersTheHeadBefore() {
        Run x = forkedWith(MOST_COMMITS);
        x.does("put", 63, 0);
        x.gives(0, "branch", 3);
        x.gives(19, "head", 3);
        x.gives(3, "branch", 1);
        x.gives(19, "head", 1);
        // It has that head already.
        x.keeps(19, "branch", 1);
        x.gives(0, "head", 2);
        x.gives(1, "has", 63);
        x.gives(0, "current");
    }

    @Says(promise = 10, words = "-1 if branch is not good")
    private static void mergeOfABadBranch() {
        Run x = forked();
        for (int branch : BAD_BRANCHES) {
            for (int side = 0; side < 3; side++) {
                x.keeps(-1, "merge", branch, side);
            }
        }
    }

    @Says(promise = 10, words = "-2 if side is not in 0 .. 2")
    private static void mergeWithABadSide() {
        Run x = forked();
        Run y = new Run();
        for (int side : BAD_SIDES) {
            x.keeps(-2, "merge", 1, side);
            y.keeps(-2, "merge", 1, side);
        }
        for (int side = 0; side < 3; side++) {
            Run z = forked();
            z.gives(side == 2 ? -5 : 1, "merge", 1, side);
        }
    }

    @Says(promise = 10, words = "-3 if the working map is not clean")
    private static void mergeWhenNotClean() {
        for (int key : new int[] {0, 63}) {
            Run x = forked();
            x.does("put", key, 0);
            for (int side = 0; side < 3; side++) {
                x.keeps(-3, "merge", 1, side);
            }
            x.does("delete", key);
            x.gives(1, "merge", 1, 0);
        }
        // The map of theirs is unclean as well.
        Run y = forked();
        y.does("checkout", 3);
        y.keeps(-3, "merge", 1, 1);
    }

    @Says(promise = 10, words = "if o is b, nothing is done, and the answer is 1000")
    private static void mergeOfAnAncestor() {
        Run fresh = new Run();
        Run x = forked();
        for (int side = 0; side < 3; side++) {
            // Both heads are commit 0, so o is a as well as b.
            fresh.keeps(1000, "merge", 0, side);
            fresh.keeps(1000, "merge", 3, side);
            x.keeps(1000, "merge", 0, side);
            x.keeps(1000, "merge", 2, side);
        }
        x.does("merge", 1, 1);
        x.keeps(1000, "merge", 1, 2);
    }

    @Says(promise = 10, words = "if o is a, the current head becomes b and the working map its map")
    private static void mergeOfADescendant() {
        for (int side = 0; side < 3; side++) {
            Run x = forkedEverywhere();
            x.does("change", 2);
            x.gives(2000, "merge", 1, side);
            x.gives(2, "head", 2);
            x.gives(2, "head", 1);
            x.gives(2, "current");
            x.gives(200, "value", 0);
            x.gives(263, "value", 63);
            x.gives(1, "clean");
            x.gives(3, "commits");
        }
    }

    @Says(promise = 10, words = "otherwise -4 if there are 20 commits")
    private static void mergeToTheTwentyFirst() {
        Run full = forkedWith(MOST_COMMITS);
        for (int side = 0; side < 3; side++) {
            full.keeps(-4, "merge", 1, side);
        }
        Run room = forkedWith(19);
        room.gives(1, "merge", 1, 1);
        room.gives(19, "head", 0);
        room.gives(18, "parent", 19, 0);
        room.gives(3, "parent", 19, 1);
        room.gives(20, "ancestors", 19);
        room.gives(20, "commits");
        room.keeps(1000, "merge", 1, 1);
    }

    @Says(promise = 10, words = "-5 if side is 2 and there is a conflict")
    private static void mergeRefusesConflicts() {
        Run everywhere = forkedEverywhere();
        everywhere.keeps(-5, "merge", 1, 2);
        Run one = forked();
        one.keeps(-5, "merge", 1, 2);
        // The last commit that there is room for is no reason to make it.
        Run last = forkedWith(19);
        last.keeps(-5, "merge", 1, 2);
        for (int key : new int[] {0, 63}) {
            Run edge = new Run();
            edge.does("put", key, 1);
            edge.does("commit");
            edge.does("change", 1);
            edge.does("put", key, 0);
            edge.does("commit");
            edge.keeps(-5, "merge", 0, 2);
        }
        Run none = line(2);
        none.does("change", 1);
        none.does("put", 63, 1);
        none.does("commit");
        none.gives(0, "merge", 0, 2);
        none.gives(2, "size", 3);
    }

    @Says(promise = 10, words = "the answer is how many conflicts there were")
    private static void mergeCountsConflicts() {
        for (int side = 0; side < 2; side++) {
            Run x = forkedEverywhere();
            x.gives(64, "merge", 1, side);
            x.gives(side == 0 ? 100 : 200, "value", 0);
            x.gives(side == 0 ? 163 : 263, "valueIn", 3, 63);
            x.gives(side == 0 ? 0 : 64, "differing", 1, 3);
            x.gives(1, "clean");
            // Both agree on every key, though no key agrees with the base.
            Run alike = fullMap();
            alike.does("change", 1);
            alike.does("spread", 0, EACH_KEY, 100);
            alike.does("commit");
            alike.gives(0, "merge", 0, side);
            alike.gives(64, "size", 3);
            // Two commits with the empty map.
            Run empty = new Run();
            empty.does("commit");
            empty.does("change", 1);
            empty.does("commit");
            empty.gives(0, "merge", 0, side);
            empty.gives(0, "size", 3);
            empty.gives(4, "ancestors", 3);
        }
    }

    @Says(promise = 11, words = "-1 if commit is not good")
    private static void pickOfABadCommit() {
        Run x = forked();
        Run fresh = new Run();
        for (int side = 0; side < 3; side++) {
            for (int commit : badCommits(4)) {
                x.keeps(-1, "pick", commit, side);
            }
            for (int commit : badCommits(1)) {
                fresh.keeps(-1, "pick", commit, side);
            }
        }
    }

    @Says(promise = 11, words = "-2 if side is not in 0 .. 2")
    private static void pickWithABadSide() {
        Run x = forked();
        for (int side : BAD_SIDES) {
            x.keeps(-2, "pick", 3, side);
            x.keeps(-2, "pick", 1, side);
        }
        for (int side = 0; side < 3; side++) {
            Run z = forked();
            z.gives(side == 2 ? -6 : 1, "pick", 3, side);
        }
    }

    @Says(promise = 11, words = "-3 if the working map is not clean")
    private static void pickWhenNotClean() {
        for (int key : new int[] {0, 63}) {
            Run x = forked();
            x.does("put", key, 0);
            for (int side = 0; side < 3; side++) {
                x.keeps(-3, "pick", 3, side);
            }
            x.does("delete", key);
            x.gives(1, "pick", 3, 0);
        }
        Run y = forked();
        y.does("checkout", 3);
        y.keeps(-3, "pick", 3, 1);
    }

    @Says(promise = 11, words = "-4 if there are 20 commits")
    private static void pickToTheTwentyFirst() {
        Run full = forkedWith(MOST_COMMITS);
        for (int side = 0; side < 3; side++) {
            for (int commit : new int[] {0, 1, 3, 19}) {
                full.keeps(-4, "pick", commit, side);
            }
        }
        Run room = forkedWith(19);
        room.gives(1, "pick", 3, 1);
        room.gives(19, "head", 0);
        room.gives(18, "parent", 19, 0);
        room.gives(-2, "parent", 19, 1);
        room.gives(3, "valueIn", 19, 5);
        room.gives(20, "commits");
    }

    @Says(promise = 11, words = "-5 if the commit has no parent")
    private static void pickOfCommitZero() {
        Run fresh = new Run();
        Run x = forked();
        Run last = forkedWith(19);
        for (int side = 0; side < 3; side++) {
            fresh.keeps(-5, "pick", 0, side);
            x.keeps(-5, "pick", 0, side);
            last.keeps(-5, "pick", 0, side);
        }
        // Commit 1, the first one with a parent, whose parent is commit 0.
        Run y = line(2);
        y.does("change", 1);
        y.gives(0, "pick", 1, 2);
        y.gives(1, "value", 1);
        y.gives(0, "parent", 2, 0);
    }

    @Says(promise = 11, words = "merges with the commit's (first) parent as o")
    private static void pickOfAMerge() {
        Run x = forkedEverywhere();
        x.does("merge", 1, 1);
        x.does("change", 2);
        // The merge changed every key of its first parent 1, and none of its second one, 2.
        x.gives(64, "pick", 3, 0);
        x.gives(0, "size", 4);
        x.gives(64, "pick", 3, 1);
        x.gives(0, "differing", 3, 5);
        x.gives(4, "parent", 5, 0);
        x.gives(-2, "parent", 5, 1);
    }

    @Says(promise = 11, words = "-6 if side is 2 and there is a conflict")
    private static void pickRefusesConflicts() {
        Run everywhere = forkedEverywhere();
        everywhere.keeps(-6, "pick", 2, 2);
        Run last = forkedWith(19);
        last.keeps(-6, "pick", 3, 2);
        for (int key : new int[] {0, 63}) {
            Run edge = new Run();
            edge.does("put", key, 1);
            edge.does("commit");
            edge.does("change", 1);
            edge.does("put", key, 0);
            edge.does("commit");
            edge.keeps(-6, "pick", 1, 2);
        }
        Run none = line(3);
        none.does("change", 1);
        none.gives(0, "pick", 2, 2);
        none.gives(1, "size", 3);
        none.gives(2, "value", 2);
    }

    @Says(promise = 11, words = "otherwise answers how many conflicts there were")
    private static void pickCountsConflicts() {
        for (int side = 0; side < 2; side++) {
            Run x = forkedEverywhere();
            x.gives(64, "pick", 2, side);
            x.gives(side == 0 ? 100 : 200, "value", 0);
            x.gives(side == 0 ? 163 : 263, "valueIn", 3, 63);
            x.gives(1, "clean");
            // The head itself, and a commit that did nothing.
            Run own = fullMap();
            own.gives(0, "pick", 1, side);
            own.gives(64, "size", 2);
            own.gives(0, "pick", 2, side);
            own.gives(0, "differing", 1, 3);
            own.gives(4, "commits");
        }
    }

    @Says(promise = 12, words = "How many commits there are.")
    private static void commitsAreCounted() {
        Run x = new Run();
        for (int commits = 1; commits <= MOST_COMMITS; commits++) {
            x.gives(commits, "commits");
            x.does("commit");
        }
        x.gives(20, "commits");
    }

    @Says(promise = 13, words = "The current branch.")
    private static void currentIsTold() {
        Run x = forkedWith(MOST_COMMITS);
        for (int branch = 3; branch >= 0; branch--) {
            x.does("change", branch);
            x.gives(branch, "current");
        }
        x.does("branch", 3);
        x.gives(0, "current");
    }

    @Says(promise = 14, words = "-1 if branch is not good")
    private static void headOfABadBranch() {
        Run x = forkedWith(MOST_COMMITS);
        for (int branch : BAD_BRANCHES) {
            x.keeps(-1, "head", branch);
        }
        x.keeps(19, "head", 0);
        x.keeps(0, "head", 3);
    }

    @Says(promise = 15, words = "the first (which 0) or the second (which not 0)")
    private static void parentByWhich() {
        Run x = forked();
        x.does("merge", 1, 0);
        x.keeps(2, "parent", 4, 0);
        for (int which : new int[] {-1, 1, 2, LEAST, GREATEST}) {
            x.keeps(3, "parent", 4, which);
        }
    }

    @Says(promise = 15, words = "-1 if commit is not good")
    private static void parentOfABadCommit() {
        for (int commits : new int[] {1, 4, 20}) {
            Run x = line(commits);
            for (int commit : badCommits(commits)) {
                x.keeps(-1, "parent", commit, 0);
                x.keeps(-1, "parent", commit, 1);
            }
        }
    }

    @Says(promise = 15, words = "-2 if it has no such parent")
    private static void parentThatIsNotThere() {
        Run x = line(MOST_COMMITS);
        x.keeps(-2, "parent", 0, 0);
        for (int which : new int[] {-1, 1, 2, LEAST, GREATEST}) {
            x.keeps(-2, "parent", 0, which);
            x.keeps(-2, "parent", 1, which);
            x.keeps(-2, "parent", 19, which);
        }
        // Commit 0 is a parent like any other.
        x.keeps(0, "parent", 1, 0);
        Run y = new Run();
        y.does("commit");
        y.does("branch", 1);
        y.does("change", 2);
        y.does("commit");
        y.does("merge", 1, 0);
        y.keeps(1, "parent", 3, 1);
    }

    @Says(promise = 16, words = "1 if the working map is clean, otherwise 0.")
    private static void cleanIsTold() {
        Run empty = new Run();
        empty.keeps(1, "clean");
        empty.does("spread", 0, EACH_KEY, 0);
        empty.keeps(0, "clean");
        Run full = fullMap();
        full.keeps(1, "clean");
        full.does("checkout", 0);
        full.keeps(0, "clean");
        full.does("reset");
        full.keeps(1, "clean");
        full.does("spread", 0, EACH_KEY, 101);
        full.keeps(0, "clean");
    }

    @Says(promise = 17, words = "1 if the key is there in the working map, otherwise 0; -1 if key is not good.")
    private static void hasAtTheEdges() {
        Run empty = new Run();
        Run full = fullMap();
        for (int key : new int[] {0, 63}) {
            empty.keeps(0, "has", key);
            full.keeps(1, "has", key);
        }
        for (int key : BAD_KEYS) {
            empty.keeps(-1, "has", key);
            full.keeps(-1, "has", key);
        }
        // The working map counts, not the head's.
        full.does("delete", 63);
        full.keeps(0, "has", 63);
    }

    @Says(promise = 18, words = "0 if key is not good or absent")
    private static void valueAtTheEdges() {
        Run empty = new Run();
        Run full = fullMap();
        empty.keeps(0, "value", 0);
        empty.keeps(0, "value", 63);
        full.keeps(100, "value", 0);
        full.keeps(163, "value", 63);
        for (int key : BAD_KEYS) {
            empty.keeps(0, "value", key);
            full.keeps(0, "value", key);
        }
        full.does("delete", 63);
        full.keeps(0, "value", 63);
    }

    @Says(promise = 19, words = "-1 if commit is not good")
    private static void hasInOfABadCommit() {
        for (int commits : new int[] {1, 4, 20}) {
            Run x = line(commits);
            for (int commit : badCommits(commits)) {
                x.keeps(-1, "hasIn", commit, 0);
                x.keeps(-1, "hasIn", commit, 63);
            }
        }
    }

    @Says(promise = 19, words = "-2 if key is not good")
    private static void hasInOfABadKey() {
        Run x = forkedEverywhere();
        for (int commit = 0; commit < 3; commit++) {
            for (int key : BAD_KEYS) {
                x.keeps(-2, "hasIn", commit, key);
            }
            x.keeps(commit == 0 ? 0 : 1, "hasIn", commit, 0);
            x.keeps(commit == 0 ? 0 : 1, "hasIn", commit, 63);
        }
    }

    @Says(promise = 20, words = "0 if commit or key is not good or the key is absent")
    private static void valueInAtTheEdges() {
        Run x = forkedEverywhere();
        for (int commit = 1; commit < 3; commit++) {
            for (int key : BAD_KEYS) {
                x.keeps(0, "valueIn", commit, key);
            }
            x.keeps(commit * 100, "valueIn", commit, 0);
            x.keeps(commit * 100 + 63, "valueIn", commit, 63);
        }
        x.keeps(0, "valueIn", 0, 0);
        x.keeps(0, "valueIn", 0, 63);
        for (int commit : badCommits(3)) {
            x.keeps(0, "valueIn", commit, 0);
            x.keeps(0, "valueIn", commit, 63);
            for (int key : BAD_KEYS) {
                x.keeps(0, "valueIn", commit, key);
            }
        }
        // Only in the map of commit 1, then in no map of a commit.
        x.does("delete", 63);
        x.keeps(163, "valueIn", 1, 63);
        x.does("commit");
        x.keeps(0, "valueIn", 3, 63);
    }

    @Says(promise = 21, words = "-1 if commit is not good")
    private static void sizeOfABadCommit() {
        for (int commits : new int[] {1, 4, 20}) {
            Run x = line(commits);
            x.does("put", 63, 0);
            for (int commit : badCommits(commits)) {
                x.keeps(-1, "size", commit);
            }
        }
    }

    @Says(promise = 21, words = "How many keys a commit's map has")
    private static void sizeFromEmptyToFull() {
        Run x = fullMap();
        x.keeps(0, "size", 0);
        x.keeps(64, "size", 1);
        x.does("delete", 63);
        x.does("put", 0, 0);
        x.does("commit");
        x.keeps(63, "size", 2);
        x.does("delete", 0);
        x.does("commit");
        x.keeps(62, "size", 3);
        x.keeps(64, "size", 1);
    }

    @Says(promise = 22, words = "On how many keys the maps of two commits do not agree")
    private static void differingFromNoneToAll() {
        Run x = forkedEverywhere();
        x.keeps(64, "differing", 0, 1);
        x.keeps(64, "differing", 1, 0);
        x.keeps(64, "differing", 1, 2);
        x.keeps(0, "differing", 0, 0);
        x.keeps(0, "differing", 2, 2);
        for (int key : new int[] {0, 63}) {
            Run y = new Run();
            // Absent, 0 and another value are three, and each two of them differ.
            y.does("put", key, 0);
            y.does("commit");
            y.does("put", key, LEAST);
            y.does("commit");
            y.keeps(1, "differing", 0, 1);
            y.keeps(1, "differing", 1, 2);
            y.keeps(1, "differing", 2, 0);
        }
    }

    private static void badPairs(String method, int... more) {
        for (int commits : new int[] {1, 4, 20}) {
            Run x = line(commits);
            for (int commit : badCommits(commits)) {
                x.keeps(-1, method, withMore(commit, commits - 1, more));
                x.keeps(-1, method, withMore(commits - 1, commit, more));
                x.keeps(-1, method, withMore(commit, commit, more));
            }
        }
    }

    private static int[] withMore(int a, int b, int[] more) {
        int[] args = new int[2 + more.length];
        args[0] = a;
        args[1] = b;
        System.arraycopy(more, 0, args, 2, more.length);
        return args;
    }

    @Says(promise = 22, words = "-1 if a or b is not good")
    private static void differingOfBadCommits() {
        badPairs("differing");
    }

    @Says(promise = 23, words = "The least key greater than after (any int)")
    private static void nextDifferenceAfterAnyInt() {
        Run all = forkedEverywhere();
        int[][] steps = {{LEAST, 0}, {LEAST + 1, 0}, {-65, 0}, {-2, 0}, {-1, 0}, {0, 1}, {31, 32}, {61, 62}, {62, 63}};
        for (int[] step : steps) {
            all.keeps(step[1], "nextDifference", 1, 2, step[0]);
            all.keeps(step[1], "nextDifference", 0, 1, step[0]);
        }
        Run last = new Run();
        last.does("put", 63, 0);
        last.does("commit");
        for (int after : new int[] {LEAST, -1, 0, 62}) {
            last.keeps(63, "nextDifference", 0, 1, after);
            last.keeps(63, "nextDifference", 1, 0, after);
        }
        Run first = new Run();
        first.does("put", 0, 0);
        first.does("commit");
        for (int after : new int[] {LEAST, -64, -1}) {
            first.keeps(0, "nextDifference", 0, 1, after);
        }
        first.keeps(-2, "nextDifference", 0, 1, 0);
    }

    @Says(promise = 23, words = "-1 if a or b is not good")
    private static void nextDifferenceOfBadCommits() {
        for (int after : new int[] {LEAST, -1, 0, 63, GREATEST}) {
            badPairs("nextDifference", after);
        }
    }

    @Says(promise = 23, words = "-2 if there is none")
    private static void nextDifferenceThatIsNotThere() {
        Run all = forkedEverywhere();
        for (int after : new int[] {63, 64, 65, GREATEST - 1, GREATEST}) {
            all.keeps(-2, "nextDifference", 1, 2, after);
            all.keeps(-2, "nextDifference", 0, 2, after);
        }
        for (int after : new int[] {LEAST, -1, 0, 62, 63, 64, GREATEST}) {
            all.keeps(-2, "nextDifference", 0, 0, after);
            all.keeps(-2, "nextDifference", 2, 2, after);
        }
        // Two commits with the same map.
        all.does("commit");
        all.keeps(-2, "nextDifference", 1, 3, LEAST);
    }

    @Says(promise = 24, words = "-1 if a or b is not good")
    private static void baseOfBadCommits() {
        badPairs("base");
    }

    @Says(promise = 25, words = "How many ancestors a commit has (itself included)")
    private static void ancestorsFromOneToTwenty() {
        Run x = line(MOST_COMMITS);
        x.keeps(1, "ancestors", 0);
        x.keeps(2, "ancestors", 1);
        x.keeps(20, "ancestors", 19);
        Run y = crossed();
        // Those that lie behind both parents are counted once.
        y.keeps(4, "ancestors", 4);
        Run z = forkedWith(MOST_COMMITS);
        z.keeps(3, "ancestors", 3);
        z.keeps(19, "ancestors", 19);
    }

    @Says(promise = 25, words = "-1 if commit is not good")
    private static void ancestorsOfABadCommit() {
        for (int commits : new int[] {1, 4, 20}) {
            Run x = line(commits);
            for (int commit : badCommits(commits)) {
                x.keeps(-1, "ancestors", commit);
            }
        }
    }

    @Says(promise = 26, words = "How many conflicts merging two commits with their base would have")
    private static void conflictsFromNoneToAll() {
        Run x = forkedEverywhere();
        x.keeps(64, "conflicts", 1, 2);
        x.keeps(64, "conflicts", 2, 1);
        x.keeps(0, "conflicts", 1, 1);
        x.keeps(0, "conflicts", 0, 2);
        x.keeps(0, "conflicts", 2, 0);
        x.keeps(0, "conflicts", 0, 0);
        Run full = forkedWith(MOST_COMMITS);
        full.keeps(1, "conflicts", 19, 3);
        full.keeps(1, "conflicts", 3, 19);
        full.keeps(0, "conflicts", 18, 19);
        Run unclean = forkedUnclean();
        unclean.keeps(1, "conflicts", 2, 3);
    }

    @Says(promise = 26, words = "-1 if a or b is not good")
    private static void conflictsOfBadCommits() {
        badPairs("conflicts");
    }

    @Says(promise = 27, words = "the values wrap: the one behind 2147483647 is -2147483648")
    private static void spreadWraps() {
        Run x = new Run();
        x.gives(4, "spread", 0, 64 + 3, GREATEST - 1);
        x.gives(2147483646, "value", 0);
        x.gives(2147483647, "value", 1);
        x.gives(-2147483648, "value", 2);
        x.gives(-2147483647, "value", 3);
        x.gives(1, "commit");
        x.gives(-2147483648, "valueIn", 1, 2);
        Run second = new Run();
        second.gives(2, "spread", 62, 64 + 63, GREATEST);
        second.gives(2147483647, "value", 62);
        second.gives(-2147483648, "value", 63);
        Run last = new Run();
        last.gives(64, "spread", 0, EACH_KEY, GREATEST - 62);
        last.gives(2147483647, "value", 62);
        last.gives(-2147483648, "value", 63);
        Run never = new Run();
        never.gives(64, "spread", 0, EACH_KEY, GREATEST - 63);
        never.gives(2147483647, "value", 63);
        Run wide = new Run();
        wide.gives(4, "spread", 15, 1087, GREATEST);
        wide.gives(2147483647, "value", 15);
        wide.gives(-2147483648, "value", 31);
        wide.gives(-2147483646, "value", 63);
        Run least = new Run();
        least.gives(2, "spread", 0, 64 + 1, LEAST);
        least.gives(-2147483648, "value", 0);
        least.gives(-2147483647, "value", 1);
        Run zero = new Run();
        zero.gives(2, "spread", 0, 64 + 1, -1);
        zero.gives(-1, "value", 0);
        zero.gives(0, "value", 1);
        zero.gives(1, "has", 1);
    }

    private static void run(Method test) throws IllegalAccessException {
        Says says = test.getAnnotation(Says.class);
        told = (says.promise() == 0 ? "the terms" : "promise " + says.promise()) + ", \"" + says.words() + "\", "
            + test.getName();
        try {
            test.invoke(null);
        } catch (InvocationTargetException thrown) {
            report("threw " + thrown.getCause());
        }
    }

    public static void main(String[] args) throws IllegalAccessException {
        List<Method> tests = new ArrayList<>(Arrays.asList(ChunkVersionsBoundaries.class.getDeclaredMethods()));
        tests.removeIf(method -> !method.isAnnotationPresent(Says.class));
        tests.sort(Comparator.comparing(Method::getName));
        for (Method test : tests) {
            run(test);
        }
        System.out.println(wrong == 0 ? "all " + answersGiven + " answers to " + tests.size() + " sentences are as due"
            : wrong + " answers are not as due");
        if (wrong != 0) {
            System.exit(1);
        }
    }
}
