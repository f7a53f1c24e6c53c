import java.util.ArrayList;
import java.util.List;
import java.util.Map;
import java.util.Objects;
import java.util.Set;
import java.util.TreeMap;
import java.util.TreeSet;

/** Long runs of mixed calls; each answer is compared with that of a model that is written after the document's words. */
public final class ChunkVersionsAgainstModel {
    private static final int RUNS = 4000;
    private static final int CALLS = 512;
    private static final int[] ODD = {
        Integer.MIN_VALUE, -65, -64, -2, -1, 3, 4, 19, 20, 21, 63, 64, 65, 1023, 1087, 1088, Integer.MAX_VALUE,
    };

    private static final class Commit {
        final Map<Integer, Integer> map;
        final List<Integer> parents;

        Commit(Map<Integer, Integer> map, List<Integer> parents) {
            this.map = new TreeMap<>(map);
            this.parents = parents;
        }
    }

    private static final class Model {
        final List<Commit> commits = new ArrayList<>(List.of(new Commit(Map.of(), List.of())));
        final int[] heads = new int[4];
        int current = 0;
        Map<Integer, Integer> working = new TreeMap<>();

        private boolean goodKey(int key) {
            return 0 <= key && key <= 63;
        }

        private boolean goodCommit(int commit) {
            return 0 <= commit && commit < commits.size();
        }

        private boolean goodBranch(int branch) {
            return 0 <= branch && branch <= 3;
        }

        private boolean isClean() {
            return working.equals(mapOf(heads[current]));
        }

        private Map<Integer, Integer> mapOf(int commit) {
            return commits.get(commit).map;
        }

        private Set<Integer> differences(Map<Integer, Integer> a, Map<Integer, Integer> b) {
            Set<Integer> keys = new TreeSet<>();
            for (int key = 0; key <= 63; key++) {
                if (!Objects.equals(a.get(key), b.get(key))) {
                    keys.add(key);
                }
            }
            return keys;
        }

        private Set<Integer> ancestorsOf(int commit) {
            Set<Integer> found = new TreeSet<>(Set.of(commit));
            for (int parent : commits.get(commit).parents) {
                found.addAll(ancestorsOf(parent));
            }
            return found;
        }

        private int baseOf(int a, int b) {
            TreeSet<Integer> common = new TreeSet<>(ancestorsOf(a));
            common.retainAll(ancestorsOf(b));
            return common.last();
        }

        /** Puts the result of the merge into result, and answers the number of conflicts. */
        private int merging(int base, int ours, int theirs, int side, Map<Integer, Integer> result) {
            int conflicts = 0;
            for (int key = 0; key <= 63; key++) {
                Integer o = mapOf(base).get(key);
                Integer a = mapOf(ours).get(key);
                Integer b = mapOf(theirs).get(key);
                Integer chosen;
                if (Objects.equals(a, b)) {
                    chosen = a;
                } else if (Objects.equals(a, o)) {
                    chosen = b;
                } else if (Objects.equals(b, o)) {
                    chosen = a;
                } else {
                    conflicts++;
                    chosen = side == 1 ? b : a;
                }
                if (chosen != null) {
                    result.put(key, chosen);
                }
            }
            return conflicts;
        }

        private int make(Map<Integer, Integer> map, List<Integer> parents) {
            commits.add(new Commit(map, parents));
            heads[current] = commits.size() - 1;
            working = new TreeMap<>(map);
            return heads[current];
        }

        private int load(int commit) {
            int changed = differences(working, mapOf(commit)).size();
            working = new TreeMap<>(mapOf(commit));
            return changed;
        }

        int put(int key, int value) {
            return !goodKey(key) ? -1 : working.put(key, value) == null ? 1 : 0;
        }

        int delete(int key) {
            return !goodKey(key) ? -1 : working.remove(key) != null ? 1 : 0;
        }

        int spread(int first, int plan, int value) {
            if (!goodKey(first)) {
                return -1;
            }
            int step = Math.floorDiv(plan, 64);
            int count = Math.floorMod(plan, 64) + 1;
            if (step < 1 || step > 16) {
                return -2;
            }
            int given = 0;
            while (given < count && goodKey(first + given * step)) {
                working.put(first + given * step, value + given);
                given++;
            }
            return given;
        }

        int commit() {
            return commits.size() == 20 ? -1 : make(working, List.of(heads[current]));
        }

        int change(int branch) {
            if (!goodBranch(branch)) {
                return -1;
            }
            if (!isClean()) {
                return -2;
            }
            current = branch;
            load(heads[branch]);
            return heads[branch];
        }

        int branch(int branch) {
            if (!goodBranch(branch)) {
                return -1;
            }
            if (branch == current) {
                return -2;
            }
            int before = heads[branch];
            heads[branch] = heads[current];
            return before;
        }

        int merge(int branch, int side) {
            if (!goodBranch(branch)) {
                return -1;
            }
            if (side < 0 || side > 2) {
                return -2;
            }
            if (!isClean()) {
                return -3;
            }
            int a = heads[current];
            int b = heads[branch];
            int o = baseOf(a, b);
            if (o == b) {
                return 1000;
            }
            if (o == a) {
                heads[current] = b;
                load(b);
                return 2000;
            }
            if (commits.size() == 20) {
                return -4;
            }
            Map<Integer, Integer> result = new TreeMap<>();
            int conflicts = merging(o, a, b, side, result);
            if (side == 2 && conflicts > 0) {
                return -5;
            }
            make(result, List.of(a, b));
            return conflicts;
        }

        int pick(int commit, int side) {
            if (!goodCommit(commit)) {
                return -1;
            }
            if (side < 0 || side > 2) {
                return -2;
            }
            if (!isClean()) {
                return -3;
            }
            if (commits.size() == 20) {
                return -4;
            }
            if (commits.get(commit).parents.isEmpty()) {
                return -5;
            }
            Map<Integer, Integer> result = new TreeMap<>();
            int conflicts = merging(commits.get(commit).parents.get(0), heads[current], commit, side, result);
            if (side == 2 && conflicts > 0) {
                return -6;
            }
            make(result, List.of(heads[current]));
            return conflicts;
        }

        int parent(int commit, int which) {
            if (!goodCommit(commit)) {
                return -1;
            }
            int place = which == 0 ? 0 : 1;
            List<Integer> parents = commits.get(commit).parents;
            return place < parents.size() ? parents.get(place) : -2;
        }

        int hasIn(int commit, int key) {
            return !goodCommit(commit) ? -1 : !goodKey(key) ? -2 : mapOf(commit).containsKey(key) ? 1 : 0;
        }

        int valueIn(int commit, int key) {
            return goodCommit(commit) && goodKey(key) ? mapOf(commit).getOrDefault(key, 0) : 0;
        }

        int nextDifference(int a, int b, int after) {
            if (!goodCommit(a) || !goodCommit(b)) {
                return -1;
            }
            for (int key : differences(mapOf(a), mapOf(b))) {
                if (key > after) {
                    return key;
                }
            }
            return -2;
        }

        int ofTwo(int what, int a, int b) {
            if (!goodCommit(a) || !goodCommit(b)) {
                return -1;
            }
            return switch (what) {
                case 0 -> differences(mapOf(a), mapOf(b)).size();
                case 1 -> baseOf(a, b);
                default -> merging(baseOf(a, b), a, b, 0, new TreeMap<>());
            };
        }
    }

    private static long seed;
    private static int answersGiven = 0;
    private static int wrong = 0;
    private static final Map<String, Integer> seen = new TreeMap<>();

    private static int below(int bound) {
        seed = seed * 6364136223846793005L + 1442695040888963407L;
        return (int) ((seed >>> 33) % bound);
    }

    private static int oddOr(int usual) {
        return below(40) == 0 ? ODD[below(ODD.length)] : usual;
    }

    private static int key() {
        return oddOr(below(4) == 0 ? below(64) : below(6));
    }

    private static int value() {
        return oddOr(below(3));
    }

    private static int branchNumber() {
        return oddOr(below(4));
    }

    private static int side() {
        return oddOr(below(3));
    }

    private static int commitOf(Model model) {
        return oddOr(below(model.commits.size() + 1));
    }

    private static int plan() {
        return oddOr(below(5) == 0 ? below(64 * 18) : 64 * (1 + below(3)) + below(4));
    }

    private static boolean due(int run, int call, String text, int got, int want) {
        answersGiven++;
        String kind = text.substring(0, text.indexOf('(')) + " " + (want < 0 || want >= 1000 ? "" + want : "done");
        seen.merge(kind, 1, Integer::sum);
        if (got == want) {
            return true;
        }
        wrong++;
        System.out.println("run " + run + ", call " + call + ": " + text + " answered " + got + ", due is " + want);
        return false;
    }

    /** One call that may change something. */
    private static boolean act(ChunkVersions x, Model model, int run, int call) {
        int which = below(20);
        int a;
        int b;
        int c;
        switch (which) {
            case 0, 1, 2, 3, 4:
                a = key();
                b = value();
                return due(run, call, "put(" + a + ", " + b + ")", x.put(a, b), model.put(a, b));
            case 5, 6:
                a = key();
                return due(run, call, "delete(" + a + ")", x.delete(a), model.delete(a));
            case 7:
                a = key();
                b = plan();
                c = value();
                return due(run, call, "spread(" + a + ", " + b + ", " + c + ")", x.spread(a, b, c),
                    model.spread(a, b, c));
            case 8, 9:
                return due(run, call, "commit()", x.commit(), model.commit());
            case 10:
                return due(run, call, "reset()", x.reset(), model.load(model.heads[model.current]));
            case 11:
                a = commitOf(model);
                return due(run, call, "checkout(" + a + ")", x.checkout(a), model.goodCommit(a) ? model.load(a) : -1);
            case 12, 13, 14, 15:
                a = branchNumber();
                return due(run, call, "change(" + a + ")", x.change(a), model.change(a));
            case 16:
                a = branchNumber();
                return due(run, call, "branch(" + a + ")", x.branch(a), model.branch(a));
            case 17, 18:
                a = branchNumber();
                b = side();
                return due(run, call, "merge(" + a + ", " + b + ")", x.merge(a, b), model.merge(a, b));
            default:
                a = commitOf(model);
                b = side();
                return due(run, call, "pick(" + a + ", " + b + ")", x.pick(a, b), model.pick(a, b));
        }
    }

    private static boolean ask(ChunkVersions x, Model model, int run, int call) {
        int a = commitOf(model);
        int b = commitOf(model);
        int key = key();
        int branch = branchNumber();
        int which = oddOr(below(2));
        switch (below(15)) {
            case 0:
                return due(run, call, "commits()", x.commits(), model.commits.size());
            case 1:
                return due(run, call, "current()", x.current(), model.current);
            case 2:
                return due(run, call, "head(" + branch + ")", x.head(branch),
                    model.goodBranch(branch) ? model.heads[branch] : -1);
            case 3:
                return due(run, call, "parent(" + a + ", " + which + ")", x.parent(a, which), model.parent(a, which));
            case 4:
                return due(run, call, "clean()", x.clean(), model.isClean() ? 1 : 0);
            case 5:
                return due(run, call, "has(" + key + ")", x.has(key),
                    !model.goodKey(key) ? -1 : model.working.containsKey(key) ? 1 : 0);
            case 6:
                return due(run, call, "value(" + key + ")", x.value(key), model.working.getOrDefault(key, 0));
            case 7:
                return due(run, call, "hasIn(" + a + ", " + key + ")", x.hasIn(a, key), model.hasIn(a, key));
            case 8:
                return due(run, call, "valueIn(" + a + ", " + key + ")", x.valueIn(a, key), model.valueIn(a, key));
            case 9:
                return due(run, call, "size(" + a + ")", x.size(a), model.goodCommit(a) ? model.mapOf(a).size() : -1);
            case 10:
                return due(run, call, "differing(" + a + ", " + b + ")", x.differing(a, b), model.ofTwo(0, a, b));
            case 11:
                return due(run, call, "nextDifference(" + a + ", " + b + ", " + key + ")",
                    x.nextDifference(a, b, key), model.nextDifference(a, b, key));
            case 12:
                return due(run, call, "base(" + a + ", " + b + ")", x.base(a, b), model.ofTwo(1, a, b));
            case 13:
                return due(run, call, "ancestors(" + a + ")", x.ancestors(a),
                    model.goodCommit(a) ? model.ancestorsOf(a).size() : -1);
            default:
                return due(run, call, "conflicts(" + a + ", " + b + ")", x.conflicts(a, b), model.ofTwo(2, a, b));
        }
    }

    private static void run(int run) {
        seed = run;
        ChunkVersions x = new ChunkVersions();
        Model model = new Model();
        // Runs of many actions fill the commits early; runs of many questions look closer at what is there.
        int actions = 1 + below(4);
        boolean right = true;
        for (int call = 1; call <= CALLS && right; call++) {
            right = below(5) < actions ? act(x, model, run, call) : ask(x, model, run, call);
        }
    }

    /** The runs are worth little if they never come to an answer of the document; -3 of spread can't come up. */
    private static void checkReach() {
        String[] wanted = {
            "put -1", "put done", "delete -1", "delete done", "spread -1", "spread -2", "spread done", "commit -1",
            "commit done", "reset done", "checkout -1", "checkout done", "change -1", "change -2", "change done",
            "branch -1", "branch -2", "branch done", "merge -1", "merge -2", "merge -3", "merge -4", "merge -5",
            "merge 1000", "merge 2000", "merge done", "pick -1", "pick -2", "pick -3", "pick -4", "pick -5", "pick -6",
            "pick done", "head -1", "parent -1", "parent -2", "has -1", "hasIn -1", "hasIn -2", "size -1",
            "differing -1", "nextDifference -1", "nextDifference -2", "base -1", "ancestors -1", "conflicts -1",
            "conflicts done",
        };
        for (String kind : wanted) {
            if (seen.getOrDefault(kind, 0) < 20) {
                wrong++;
                System.out.println("the runs came too seldom to: " + kind);
            }
        }
    }

    public static void main(String[] args) {
        for (int run = 1; run <= RUNS && wrong < 20; run++) {
            run(run);
        }
        if (wrong == 0) {
            checkReach();
        }
        System.out.println(wrong == 0 ? "all " + answersGiven + " answers are as due" : wrong + " answers are not as due");
        if (wrong != 0) {
            System.exit(1);
        }
    }
}
