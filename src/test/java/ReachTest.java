import java.util.Arrays;
import java.util.BitSet;

/**
 * Goes through every state that runs of calls can bring nodes to: who is up, a member, current, in which group, who leads,
 * and who holds a pending command. The values don't matter to that. It shows what other tests say that no run of calls can
 * show, and holds the program to the document in a part of those states, with every kind of call from there.
 */
public final class ReachTest {
    private static final int CALLS = 37;
    private static final int WHOLE = 4;
    private static final int PART = 97;
    private static final Due due = new Due("ReachTest");

    // Every state found, in the order of how many calls it takes, with the state it was found from and the call.
    private static int[] found = new int[1 << 22];
    private static int[] from = new int[1 << 22];
    private static byte[] by = new byte[1 << 22];
    private static int count = 0;
    private static final int[] untilCalls = new int[64];

    public static void main(String[] args) {
        findAll();
        whatNoRunShows();
        theProgramDoesTheSame();
        due.end();
    }

    private static void findAll() {
        BitSet seen = new BitSet(1 << 29);
        Nodes nodes = new Nodes();
        keep(seen, nodes.packed(), 0, 0);
        int next = 0;
        for (int calls = 0; next < count; calls++) {
            untilCalls[calls] = count;
            for (int end = count; next < end; next++) {
                for (int call = 0; call < CALLS; call++) {
                    nodes.unpack(found[next]);
                    nodes.call(call);
                    keep(seen, nodes.packed(), next, call);
                }
            }
        }
    }

    private static void keep(BitSet seen, int state, int parent, int call) {
        if (!seen.get(state)) {
            seen.set(state);
            found[count] = state;
            from[count] = parent;
            by[count] = (byte) call;
            count++;
        }
    }

    private static void whatNoRunShows() {
        due.holds("there are many states: " + count, count > 1_000_000);
        due.sentence("and without it the others in the quorum are not more than half of the members");
        due.is("settlings in which this decides", Nodes.othersEnough, 0);
        due.sentence("and is not the holder of the command that was dropped, becomes leader (a step)");
        due.is("settlings in which this decides", Nodes.holderLeast, 0);
        due.sentence("The leader; NO_QUORUM if there is none.");
        due.is("settlings with a quorum, but nobody who can lead", Nodes.nobody, 0);
        due.sentence("There may be a PENDING command, with a HOLDER, a node");
        due.is("settlings after which there is a quorum and a pending command", Nodes.pendingWithQuorum, 0);
        due.sentence("(There is at most one such group.)");
        due.is("states with two", Nodes.twoGroups, 0);
        due.sentence("the least node in the quorum that is current");
        due.is("states in which one that is no member is current", Nodes.currentNoMember, 0);
    }

    private static void theProgramDoesTheSame() {
        due.sentence("SETTLING");
        for (int index = 0; index < count; index++) {
            if (index < untilCalls[WHOLE] || index % PART == 0) {
                int[] way = wayTo(index);
                for (int call = 0; call < CALLS; call++) {
                    check(index, way, call);
                }
            }
        }
    }

    private static int[] wayTo(int index) {
        int[] way = new int[untilCalls.length];
        int length = 0;
        for (int at = index; at != 0; at = from[at]) {
            way[length++] = by[at];
        }
        int[] turned = new int[length];
        for (int i = 0; i < length; i++) {
            turned[i] = way[length - 1 - i];
        }
        return turned;
    }

    private static void check(int index, int[] way, int call) {
        ElectedStore x = new ElectedStore();
        for (int i = 0; i < way.length; i++) {
            make(x, way[i], i + 1);
        }
        Nodes nodes = new Nodes();
        nodes.unpack(found[index]);
        int got = make(x, call, way.length + 1);
        int want = nodes.call(call);
        boolean right = got == want && x.leader() == (nodes.leader < 0 ? -2 : nodes.leader)
                && x.pending() == (nodes.holder < 0 ? 0 : 1);
        int ups = 0;
        int members = 0;
        for (int node = 0; node < 5; node++) {
            ups |= x.isUp(node) << node;
            members |= x.isMember(node) << node;
        }
        right = right && ups == nodes.ups && members == nodes.members;
        if (!right) {
            due.holds("call " + call + " answers " + want + " after " + Arrays.toString(way), false);
        } else {
            due.holds("all is as due", true);
        }
    }

    private static int make(ElectedStore x, int call, int number) {
        if (call < 5) {
            return x.stop(call);
        } else if (call < 10) {
            return x.start(call - 5);
        } else if (call < 25) {
            return x.move((call - 10) / 3, (call - 10) % 3);
        } else if (call < 35) {
            return x.member((call - 25) / 2, call % 2 == 0);
        }
        return call == 35 ? x.submit(24, number, 1, 0) : x.submitAndStop(24, number, 1, 0);
    }

    /** The document's terms over sets of nodes, a bit for each node; -1 is nobody. */
    private static final class Nodes {
        static int othersEnough = 0;
        static int holderLeast = 0;
        static int nobody = 0;
        static int pendingWithQuorum = 0;
        static int twoGroups = 0;
        static int currentNoMember = 0;

        int ups = 31;
        int members = 31;
        int current = 31;
        int leader = 0;
        int holder = -1;
        final int[] groups = new int[5];

        int packed() {
            int places = 0;
            for (int group : groups) {
                places = places * 3 + group;
            }
            return ups | members << 5 | current << 10 | leader + 1 << 15 | holder + 1 << 18 | places << 21;
        }

        void unpack(int state) {
            ups = state & 31;
            members = state >> 5 & 31;
            current = state >> 10 & 31;
            leader = (state >> 15 & 7) - 1;
            holder = (state >> 18 & 7) - 1;
            int places = state >> 21;
            for (int node = 4; node >= 0; node--) {
                groups[node] = places % 3;
                places /= 3;
            }
        }

        boolean moreThanHalf(int nodes) {
            return 2 * Integer.bitCount(nodes) > Integer.bitCount(members);
        }

        int upMembers(int group) {
            int nodes = 0;
            for (int node = 0; node < 5; node++) {
                nodes |= groups[node] == group ? 1 << node : 0;
            }
            return nodes & ups & members;
        }

        int quorumGroup() {
            int quorum = -1;
            for (int group = 0; group < 3; group++) {
                if (moreThanHalf(upMembers(group))) {
                    twoGroups += quorum < 0 ? 0 : 1;
                    quorum = group;
                }
            }
            return quorum;
        }

        int quorum() {
            int group = quorumGroup();
            return group < 0 ? 0 : upMembers(group);
        }

        static boolean has(int nodes, int node) {
            return node >= 0 && (nodes >> node & 1) == 1;
        }

        void step() {
            current &= quorum();
        }

        void settle() {
            int quorum = quorum();
            if (quorum == 0) {
                leader = -1;
                return;
            }
            if (!has(quorum, leader)) {
                choose(quorum);
            }
            current |= quorum;
            pendingWithQuorum += holder < 0 ? 0 : 1;
            currentNoMember += (current & ~members) == 0 ? 0 : 1;
        }

        void choose(int quorum) {
            if (has(quorum, holder) && moreThanHalf(quorum & ~(1 << holder))) {
                othersEnough++;
            }
            if (has(quorum, holder) && !moreThanHalf(quorum & ~(1 << holder))) {
                leader = holder;
            } else {
                int able = quorum & current;
                holderLeast += has(able, holder) ? 1 : 0;
                nobody += able == 0 ? 1 : 0;
                leader = able == 0 ? -1 : Integer.numberOfTrailingZeros(able);
            }
            holder = -1;
            step();
        }

        int call(int call) {
            if (call < 5) {
                int was = ups >> call & 1;
                ups &= ~(1 << call);
                settle();
                return was;
            } else if (call < 10) {
                int was = ups >> call - 5 & 1;
                ups |= 1 << call - 5;
                settle();
                return 1 - was;
            } else if (call < 25) {
                int was = groups[(call - 10) / 3];
                groups[(call - 10) / 3] = (call - 10) % 3;
                settle();
                return was;
            } else if (call < 35) {
                return member((call - 25) / 2, call % 2 == 0);
            }
            return command(call == 36);
        }

        int member(int node, boolean flag) {
            int group = quorumGroup();
            if (group < 0) {
                return -2;
            }
            if (has(members, node) == flag) {
                return 0;
            }
            if (members == 1 << node) {
                return -4;
            }
            members ^= 1 << node;
            if (!moreThanHalf(upMembers(group))) {
                members ^= 1 << node;
                return -5;
            }
            step();
            if (!has(members, leader)) {
                leader = -1;
            }
            settle();
            return 1;
        }

        int command(boolean andStop) {
            if (quorumGroup() < 0) {
                return -2;
            }
            if (!andStop) {
                step();
                settle();
                return 0;
            }
            holder = leader;
            ups &= ~(1 << leader);
            settle();
            return holder < 0 ? 3 : 2;
        }
    }
}
