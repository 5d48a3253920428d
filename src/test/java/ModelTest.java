import java.util.ArrayList;
import java.util.Arrays;
import java.util.List;
import java.util.Random;
import java.util.TreeMap;
import java.util.TreeSet;

/**
 * Long runs of calls against a second, slower telling of the document's terms over sets. The runs come from fixed seeds,
 * and the test fails too if they did not reach the rare answers, so that it can't pass by missing them.
 */
public final class ModelTest {
    private static final int RUNS = 3000;
    private static final int CALLS = 512;
    private static final Due due = new Due("ModelTest");
    private static final TreeMap<String, Integer> reached = new TreeMap<>();

    public static void main(String[] args) {
        for (int run = 0; run < RUNS; run++) {
            run(run);
        }
        for (String rare : List.of("member -5", "member -4", "member -2", "member 0", "member 1", "submit -3", "submit 1",
                "submit 0", "submitAndStop -3", "submitAndStop 1", "submitAndStop 2", "submitAndStop 3",
                "pending done", "pending dropped later", "not the least leads", "same 0")) {
            due.holds("the runs reach: " + rare, reached.getOrDefault(rare, 0) >= 20);
        }
        due.end();
    }

    private static void run(int seed) {
        Random random = new Random(seed);
        ElectedStore x = new ElectedStore();
        Model model = new Model();
        // Some runs have their numbers where there are no greater ones.
        model.numbersFrom = seed % 4 == 3 ? Due.MAX - 20 : 0;
        for (int call = 0; call < CALLS; call++) {
            if (random.nextInt(3) > 0) {
                act(random, x, model, "run " + seed + ", call " + call + ": ");
            } else {
                ask(random, x, model, "run " + seed + ", call " + call + ": ");
            }
        }
    }

    private static int near(Random random, int bound) {
        int[] outside = Due.outside(bound);
        return random.nextInt(60) == 0 ? outside[random.nextInt(outside.length)] : random.nextInt(bound);
    }

    private static void act(Random random, ElectedStore x, Model model, String at) {
        int node = near(random, 5);
        switch (random.nextInt(12)) {
            case 0: case 1:
                due.is(at + "stop(" + node + ")", x.stop(node), model.stop(node));
                break;
            case 2: case 3: case 4:
                due.is(at + "start(" + node + ")", x.start(node), model.start(node));
                break;
            case 5:
                int group = random.nextInt(3) > 0 ? 0 : near(random, 3);
                due.is(at + "move(" + node + ", " + group + ")", x.move(node, group), model.move(node, group));
                break;
            case 6: case 7:
                boolean flag = random.nextBoolean();
                int got = x.member(node, flag);
                due.is(at + "member(" + node + ", " + flag + ")", got, model.member(node, flag));
                reached.merge("member " + got, 1, Integer::sum);
                break;
            case 8:
                x.compact();
                break;
            default:
                command(random, x, model, at);
        }
    }

    private static void command(Random random, ElectedStore x, Model model, String at) {
        int code = near(random, 72);
        long near = model.numbersFrom + (long) model.calls / 4 + random.nextInt(9) - 4;
        int number = random.nextInt(30) == 0 ? -random.nextInt(3) : (int) Math.min(Due.MAX, Math.max(1, near));
        int a = value(random);
        int b = value(random);
        boolean andStop = random.nextInt(3) == 0;
        int got = andStop ? x.submitAndStop(code, number, a, b) : x.submit(code, number, a, b);
        String name = andStop ? "submitAndStop" : "submit";
        due.is(at + name + "(" + code + ", " + number + ", " + a + ", " + b + ")", got,
                model.submit(andStop, code, number, a, b));
        reached.merge(name + " " + got, 1, Integer::sum);
    }

    private static int value(Random random) {
        switch (random.nextInt(12)) {
            case 0: return random.nextInt();
            case 1: return random.nextBoolean() ? Due.MIN : Due.MAX;
            default: return random.nextInt(5) - 2;
        }
    }

    private static void ask(Random random, ElectedStore x, Model model, String at) {
        int node = near(random, 5);
        int key = near(random, 6);
        int session = near(random, 4);
        switch (random.nextInt(12)) {
            case 0: due.is(at + "isUp", x.isUp(node), Model.good(node) ? (model.up.contains(node) ? 1 : 0) : -1); break;
            case 1: due.is(at + "isMember", x.isMember(node), Model.good(node) ? (model.members.contains(node) ? 1 : 0) : -1); break;
            case 2: case 3: due.is(at + "leader", x.leader(), model.leader == null ? -2 : model.leader); break;
            case 4: due.is(at + "pending", x.pending(), model.pending == null ? 0 : 1); break;
            case 5: due.is(at + "get", x.get(key), key < 0 || key > 5 || model.quorum().isEmpty() ? 0 : model.state[key]); break;
            case 6: due.is(at + "canGet", x.canGet(key), key < 0 || key > 5 ? -1 : model.quorum().isEmpty() ? -2 : 0); break;
            case 7: due.is(at + "local", x.local(node, key), Model.good(node) && key >= 0 && key <= 5 ? model.copies[node][key] : 0); break;
            case 8: due.is(at + "lastNumber", x.lastNumber(node, session), Model.good(node) && session >= 0 && session <= 3 ? model.copies[node][6 + session] : -1); break;
            case 9: due.is(at + "answer", x.answer(node, session), Model.good(node) && session >= 0 && session <= 3 ? model.copies[node][10 + session] : 0); break;
            case 10: due.is(at + "faults", x.faults(), 0); break;
            default: same(x, model, node, near(random, 5), at);
        }
    }

    private static void same(ElectedStore x, Model model, int node, int other, String at) {
        int want = !Model.good(node) || !Model.good(other) ? -1 : Arrays.equals(model.copies[node], model.copies[other]) ? 1 : 0;
        due.is(at + "same", x.same(node, other), want);
        reached.merge("same " + want, 1, Integer::sum);
    }

    /** The document's terms, word by word. */
    private static final class Model {
        final TreeSet<Integer> up = new TreeSet<>(List.of(0, 1, 2, 3, 4));
        final TreeSet<Integer> members = new TreeSet<>(List.of(0, 1, 2, 3, 4));
        final TreeSet<Integer> current = new TreeSet<>(List.of(0, 1, 2, 3, 4));
        final int[] group = new int[5];
        final int[] state = new int[14];
        final int[][] copies = new int[5][14];
        Integer leader = 0;
        int[] pending = null;
        Integer holder = null;
        int calls = 0;
        int numbersFrom = 0;

        static boolean good(int node) {
            return node >= 0 && node <= 4;
        }

        TreeSet<Integer> quorum() {
            List<TreeSet<Integer>> found = new ArrayList<>();
            for (int g = 0; g <= 2; g++) {
                TreeSet<Integer> nodes = new TreeSet<>();
                for (int node : up) {
                    if (members.contains(node) && group[node] == g) {
                        nodes.add(node);
                    }
                }
                if (moreThanHalf(nodes.size())) {
                    found.add(nodes);
                }
            }
            due.holds("there is at most one such group", found.size() <= 1);
            return found.isEmpty() ? new TreeSet<>() : found.get(0);
        }

        boolean moreThanHalf(int count) {
            return count > members.size() / 2.0;
        }

        void step() {
            current.retainAll(quorum());
        }

        void command(int[] c) {
            int kind = c[0] / 24;
            int session = c[0] % 24 / 6;
            int key = c[0] % 6;
            int x = state[key];
            switch (kind) {
                case 0: state[key] = c[2]; break;
                case 1: state[key] = (int) ((long) x + c[2]); break;
                default: state[key] = x == c[2] ? c[3] : x;
            }
            state[6 + session] = c[1];
            state[10 + session] = x;
            step();
        }

        void settle() {
            TreeSet<Integer> quorum = quorum();
            if (quorum.isEmpty()) {
                leader = null;
                return;
            }
            if (leader == null || !quorum.contains(leader)) {
                if (pending != null && quorum.contains(holder) && !moreThanHalf(quorum.size() - 1)) {
                    leader = holder;
                    step();
                    command(pending);
                    reached.merge("pending done", 1, Integer::sum);
                } else {
                    TreeSet<Integer> able = new TreeSet<>(quorum);
                    able.retainAll(current);
                    if (pending != null) {
                        able.remove(holder);
                        reached.merge(up.contains(holder) ? "pending dropped later" : "pending dropped", 1, Integer::sum);
                    }
                    due.holds("some node can be chosen", !able.isEmpty());
                    leader = able.first();
                    if (!leader.equals(quorum.first())) {
                        reached.merge("not the least leads", 1, Integer::sum);
                    }
                    step();
                }
                pending = null;
                holder = null;
            }
            for (int node : quorum) {
                current.add(node);
                copies[node] = state.clone();
            }
        }

        int stop(int node) {
            if (!good(node)) {
                return -1;
            }
            boolean was = up.remove(node);
            settle();
            return was ? 1 : 0;
        }

        int start(int node) {
            if (!good(node)) {
                return -1;
            }
            boolean was = !up.add(node);
            settle();
            return was ? 0 : 1;
        }

        int move(int node, int to) {
            if (!good(node) || to < 0 || to > 2) {
                return -1;
            }
            int was = group[node];
            group[node] = to;
            settle();
            return was;
        }

        int member(int node, boolean flag) {
            if (!good(node)) {
                return -1;
            }
            TreeSet<Integer> quorum = quorum();
            if (quorum.isEmpty()) {
                return -2;
            }
            if (members.contains(node) == flag) {
                return 0;
            }
            if (members.size() == 1 && !flag) {
                return -4;
            }
            TreeSet<Integer> would = new TreeSet<>(members);
            if (flag) {
                would.add(node);
            } else {
                would.remove(node);
            }
            int together = 0;
            for (int each : would) {
                if (up.contains(each) && group[each] == group[quorum.first()]) {
                    together++;
                }
            }
            if (together * 2 <= would.size()) {
                return -5;
            }
            members.clear();
            members.addAll(would);
            step();
            if (leader != null && !members.contains(leader)) {
                leader = null;
            }
            settle();
            return 1;
        }

        int submit(boolean andStop, int code, int number, int a, int b) {
            if (code < 0 || code > 71 || number < 1) {
                return -1;
            }
            if (quorum().isEmpty()) {
                return -2;
            }
            int last = state[6 + code % 24 / 6];
            if (number <= last) {
                return number < last ? -3 : 1;
            }
            calls++;
            int[] command = {code, number, a, b};
            if (!andStop) {
                command(command);
                settle();
                return 0;
            }
            due.holds("no command is pending while there is a quorum", pending == null);
            pending = command;
            holder = leader;
            up.remove(leader);
            settle();
            return pending != null ? 2 : 3;
        }
    }
}
