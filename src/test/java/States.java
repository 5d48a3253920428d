import java.util.LinkedHashMap;
import java.util.Map;
import java.util.Random;
import java.util.function.Consumer;

/** The kinds of states that an object can come to, each with the calls that bring a new object there. */
final class States {
    static final int FUTURES = 18;
    private static final int GATHERINGS = 10;
    private static final int FUTURE_STEPS = 30;

    private States() {
    }

    static ElectedStore at(Consumer<ElectedStore> way) {
        ElectedStore x = new ElectedStore();
        way.accept(x);
        return x;
    }

    /** At most 40 calls each. */
    static Map<String, Consumer<ElectedStore>> all() {
        Map<String, Consumer<ElectedStore>> ways = new LinkedHashMap<>();
        ways.put("new", x -> { });
        ways.put("commands done", States::fill);
        ways.put("greatest numbers and outermost values", States::outermost);
        ways.put("one down and behind", x -> { fill(x); stop(x, 3); late(x); });
        ways.put("one in another group and behind", x -> { fill(x); x.move(2, 1); late(x); });
        ways.put("one down that missed nothing", x -> { fill(x); stop(x, 1); });
        ways.put("just enough, and those away missed nothing", x -> { fill(x); stop(x, 1); x.move(2, 1); });
        ways.put("three members, and the one away missed nothing", x -> { fill(x); take(x, 0, 4); stop(x, 2); });
        ways.put("another leads", x -> { fill(x); stop(x, 0, 1); start(x, 0, 1); });
        ways.put("quorum in group 2", x -> { fill(x); move(x, 2, 2, 3, 4); late(x); });
        ways.put("just enough of five, down", x -> { fill(x); stop(x, 1, 4); late(x); });
        ways.put("just enough of five, in groups", x -> { fill(x); x.move(0, 1); x.move(3, 2); late(x); });
        ways.put("one too few of five, down", x -> { fill(x); stop(x, 4); late(x); stop(x, 0, 1); });
        ways.put("one too few of five, in groups", x -> { fill(x); move(x, 1, 0, 1); x.move(2, 2); });
        ways.put("all down", x -> { fill(x); stop(x, 4); late(x); stop(x, 3, 2, 1, 0); });
        ways.put("four members", x -> { fill(x); take(x, 1); late(x); });
        ways.put("half of four members", x -> { fill(x); take(x, 0); late(x); stop(x, 1, 4); });
        ways.put("three members", x -> { fill(x); take(x, 1, 3); late(x); });
        ways.put("just enough of three members", x -> { fill(x); take(x, 0, 3); stop(x, 1); late(x); });
        ways.put("one of three members", x -> { fill(x); take(x, 0, 3); stop(x, 1); x.move(2, 1); });
        ways.put("two members", x -> { fill(x); take(x, 0, 1, 3); late(x); });
        ways.put("half of two members", x -> { fill(x); take(x, 0, 1, 3); late(x); x.move(2, 1); });
        ways.put("one member", x -> { fill(x); take(x, 0, 1, 2, 4); late(x); });
        ways.put("one member, down", x -> { fill(x); take(x, 0, 1, 2, 4); late(x); stop(x, 3); });
        ways.put("a member taken out and in", x -> { fill(x); take(x, 2); late(x); x.member(2, true); });
        ways.put("dropped at once", x -> { fill(x); x.submitAndStop(Due.code(1, 2, 4), 60, 5, 0); });
        ways.put("pending", x -> { fill(x); stop(x, 3, 4); x.submitAndStop(Due.code(1, 2, 4), 60, 5, 0); });
        ways.put("pending, the holder up", x -> { pend(x); x.move(0, 2); start(x, 0); });
        ways.put("pending, held by the only member", x -> { fill(x); take(x, 0, 1, 2, 4); x.submitAndStop(Due.code(0, 3, 4), 60, 5, 0); });
        ways.put("pending, all down", x -> { pend(x); stop(x, 1, 2); });
        ways.put("pending, then done", x -> { pend(x); start(x, 0); });
        ways.put("pending, then dropped", x -> { pend(x); start(x, 4); });
        ways.put("the holder is back after the drop", x -> { pend(x); start(x, 4, 0); });
        return ways;
    }

    /** Every key, last number and answer gets a value of its own; 10 calls. */
    static void fill(ElectedStore x) {
        for (int key = 0; key < 6; key++) {
            x.submit(Due.code(0, key % 4, key), 1 + key, 200 + key, 0);
        }
        for (int session = 0; session < 4; session++) {
            x.submit(Due.code(0, session, session), 30 + session, 100 + session, 0);
        }
    }

    static void outermost(ElectedStore x) {
        x.submit(Due.code(0, 0, 0), 1, Due.MIN, 0);
        x.submit(Due.code(1, 0, 0), Due.MAX - 1, -1, 0);
        x.submit(Due.code(0, 1, 5), 1, Due.MAX, 0);
        x.submit(Due.code(1, 1, 5), Due.MAX, 1, 0);
        x.submit(Due.code(2, 3, 1), Due.MAX, 0, -1);
        x.submit(Due.code(2, 2, 2), 1, 0, 0);
    }

    private static void pend(ElectedStore x) {
        fill(x);
        stop(x, 3, 4);
        x.submitAndStop(Due.code(1, 2, 4), 60, 5, 0);
    }

    private static void late(ElectedStore x) {
        x.submit(Due.code(1, 1, 3), 50, 1000, 0);
    }

    private static void stop(ElectedStore x, int... nodes) {
        for (int node : nodes) {
            x.stop(node);
        }
    }

    private static void start(ElectedStore x, int... nodes) {
        for (int node : nodes) {
            x.start(node);
        }
    }

    private static void move(ElectedStore x, int group, int... nodes) {
        for (int node : nodes) {
            x.move(node, group);
        }
    }

    private static void take(ElectedStore x, int... nodes) {
        for (int node : nodes) {
            x.member(node, false);
        }
    }

    /**
     * What one of several fixed runs of calls answers from here on, and all questions after it, as one text. Groups, who is
     * current, and what the pending command is are asked by no question, but come out here. At most 230 calls.
     */
    static String future(ElectedStore x, int which, Consumer<ElectedStore> between) {
        StringBuilder text = new StringBuilder();
        if (which < GATHERINGS) {
            gather(x, which, between, text);
        } else {
            anyCalls(x, which, between, text);
        }
        for (int node = 0; node < 5; node++) {
            text.append("group ").append(x.move(node, 0)).append(' ');
        }
        return text.append(Due.seen(x)).toString();
    }

    /** All go down without a step on the way, then three come up: the leader they choose tells who is current. */
    private static void gather(ElectedStore x, int which, Consumer<ElectedStore> between, StringBuilder text) {
        int leader = x.leader();
        for (int node = 0; node < 5; node++) {
            if (node != leader) {
                x.stop(node);
            }
        }
        if (leader >= 0) {
            x.stop(leader);
        }
        between.accept(x);
        int set = 0;
        for (int left = which; left >= 0; left--) {
            set++;
            while (Integer.bitCount(set) != 3) {
                set++;
            }
        }
        for (int node = 0; node < 5; node++) {
            if ((set >> node & 1) == 1) {
                text.append(x.move(node, 0)).append(x.start(node)).append(',').append(x.leader()).append(' ');
                between.accept(x);
            }
        }
    }

    private static void anyCalls(ElectedStore x, int which, Consumer<ElectedStore> between, StringBuilder text) {
        Random random = new Random(which);
        for (int i = 0; i < FUTURE_STEPS; i++) {
            text.append(call(x, random)).append(',').append(x.leader()).append(',').append(x.pending()).append(' ');
            between.accept(x);
        }
    }

    static String future(ElectedStore x, int which) {
        return future(x, which, y -> { });
    }

    private static int call(ElectedStore x, Random random) {
        int node = random.nextInt(5);
        switch (random.nextInt(12)) {
            case 0: case 1: return x.stop(node);
            case 2: case 3: case 4: case 5: return x.start(node);
            case 6: return x.move(node, random.nextInt(3));
            case 7: case 8: return x.move(node, 0);
            case 9: return x.member(node, random.nextBoolean());
            case 10: return x.submitAndStop(random.nextInt(72), 70 + random.nextInt(200), random.nextInt(), 3);
            default: return x.submit(random.nextInt(72), 70 + random.nextInt(200), random.nextInt(), 3);
        }
    }
}
