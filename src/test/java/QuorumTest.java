/** Terms: when the quorum is there, and which nodes are in it. */
public final class QuorumTest {
    private static final int SET = Due.code(0, 0, 0);
    private static final Due due = new Due("QuorumTest");

    public static void main(String[] args) {
        theStoreIsKept();
        moreThanHalfByStopping();
        moreThanHalfByMoving();
        moreThanHalfByStarting();
        moreThanHalfInEveryGroup();
        othersDoNotCount();
        everyGathering();
        atMostOneGroup();
        due.end();
    }

    /** The members are the nodes below count. */
    private static ElectedStore withMembers(int count) {
        ElectedStore x = new ElectedStore();
        for (int node = 4; node >= count; node--) {
            due.is("member(" + node + ", false)", x.member(node, false), 1);
        }
        return x;
    }

    /** What tells a quorum from none: each method that asks for one. */
    private static void quorumIs(String where, ElectedStore x, boolean there) {
        due.is(where + ": canGet(0)", x.canGet(0), there ? 0 : ElectedStore.NO_QUORUM);
        due.holds(where + ": leader()", there ? x.leader() >= 0 : x.leader() == ElectedStore.NO_QUORUM);
        due.is(where + ": member", x.member(0, true), there ? 0 : ElectedStore.NO_QUORUM);
        int number = x.lastNumber(0, 0) + x.lastNumber(1, 0) + x.lastNumber(2, 0) + x.lastNumber(3, 0) + x.lastNumber(4, 0) + 1;
        due.is(where + ": submit", x.submit(SET, number, number, 0), there ? 0 : ElectedStore.NO_QUORUM);
        due.is(where + ": get(0)", x.get(0), there ? number : 0);
    }

    private static void theStoreIsKept() {
        due.sentence("A store that several nodes keep together, as long as more than half of them hang together.");
        for (int together = 0; together < 32; together++) {
            for (int away = 0; away < 3; away++) {
                ElectedStore x = States.at(States::fill);
                for (int node = 0; node < 5; node++) {
                    if ((together >> node & 1) == 0) {
                        leave(x, node, away);
                    }
                }
                // Those who moved away to one group hang together as well.
                int count = Integer.bitCount(together);
                boolean kept = count >= 3 || away > 0 && count <= 2;
                for (int key = 0; key < 6; key++) {
                    int value = key < 4 ? 100 + key : 200 + key;
                    due.is("get(" + key + ") with " + together + " together", x.get(key), kept ? value : 0);
                }
            }
        }
        // The nodes go down one after the other, and each is back before the next goes: nothing is lost.
        ElectedStore x = States.at(States::fill);
        for (int round = 0; round < 10; round++) {
            due.is("stop", x.stop(round % 5), 1);
            due.is("submit", x.submit(Due.code(1, 0, 5), 40 + round, 1, 0), 0);
            due.is("start", x.start(round % 5), 1);
            due.is("get(5)", x.get(5), 206 + round);
            due.is("get(0)", x.get(0), 100);
        }
    }

    private static void leave(ElectedStore x, int node, int group) {
        if (group == 0) {
            x.stop(node);
        } else {
            x.move(node, group);
        }
    }

    private static void moreThanHalfByStopping() {
        // Of 1, 2, 3, 4 and 5 members, 1, 2, 2, 3 and 3 are just enough; of 2 and 4 members, 1 and 2 are exactly half.
        due.sentence("THE QUORUM is there if the up members in some group are more than half of all members");
        int[] enough = {0, 1, 2, 2, 3, 3};
        for (int count = 1; count <= 5; count++) {
            ElectedStore x = withMembers(count);
            for (int left = count; left >= 0; left--) {
                quorumIs(left + " of " + count + " up", x, left >= enough[count]);
                if (left > 0) {
                    x.stop(left - 1);
                }
            }
        }
    }

    private static void moreThanHalfByMoving() {
        due.sentence("THE QUORUM is there if the up members in some group are more than half of all members");
        int[] enough = {0, 1, 2, 2, 3, 3};
        for (int count = 1; count <= 5; count++) {
            ElectedStore x = withMembers(count);
            for (int left = count; left >= 0; left--) {
                // Those who moved go together too, and may be the greater part.
                boolean there = left >= enough[count] || count - left >= enough[count];
                quorumIs(left + " of " + count + " in group 0", x, there);
                if (left > 0) {
                    x.move(left - 1, 1);
                }
            }
        }
    }

    private static void moreThanHalfByStarting() {
        due.sentence("THE QUORUM is there if the up members in some group are more than half of all members");
        int[] enough = {0, 1, 2, 2, 3, 3};
        for (int count = 1; count <= 5; count++) {
            ElectedStore x = withMembers(count);
            for (int node = 0; node < count; node++) {
                x.stop(node);
            }
            for (int up = 1; up <= count; up++) {
                x.start(up - 1);
                quorumIs(up + " of " + count + " up again", x, up >= enough[count]);
            }
        }
    }

    private static void moreThanHalfInEveryGroup() {
        due.sentence("THE QUORUM is there if the up members in some group are more than half of all members");
        int[] enough = {0, 1, 2, 2, 3, 3};
        for (int count = 1; count <= 5; count++) {
            for (int group = 0; group < 3; group++) {
                ElectedStore x = withMembers(count);
                for (int node = 0; node < count; node++) {
                    x.stop(node);
                    x.move(node, group);
                }
                for (int up = 1; up <= count; up++) {
                    x.start(up - 1);
                    quorumIs(up + " of " + count + " up in group " + group, x, up >= enough[count]);
                }
            }
        }
    }

    private static void othersDoNotCount() {
        due.sentence("these nodes are IN THE QUORUM");
        ElectedStore x = withMembers(3);
        x.stop(0);
        x.stop(1);
        quorumIs("one of three members, and two up that are none", x, false);
        x.start(0);
        quorumIs("two of three members", x, true);
        due.is("local(3, 0): up, in the group, but no member", x.local(3, 0), 0);
        due.is("local(1, 0): a member, in the group, but down", x.local(1, 0), 0);
        due.is("local(2, 0)", x.local(2, 0), x.get(0));
        x.start(1);
        x.move(1, 2);
        x.submit(SET, 50, 50, 0);
        due.is("local(0, 0)", x.local(0, 0), 50);
        due.holds("local(1, 0): up, a member, but in another group", x.local(1, 0) != 50);
    }

    /** Every set of members, every set of nodes that are up, and every way to be in groups. */
    private static void everyGathering() {
        due.sentence("THE QUORUM is there if the up members in some group are more than half of all members; these nodes are IN THE QUORUM.");
        for (int members = 1; members < 32; members++) {
            for (int ups = 0; ups < 32; ups++) {
                for (int place = 0; place < 243; place++) {
                    gathering(members, ups, place);
                }
            }
        }
    }

    private static void gathering(int members, int ups, int place) {
        ElectedStore x = new ElectedStore();
        int[] together = new int[3];
        int[] groups = new int[5];
        int rest = place;
        for (int node = 0; node < 5; node++) {
            groups[node] = rest % 3;
            rest /= 3;
            if ((members >> node & 1) == 0) {
                x.member(node, false);
            } else if ((ups >> node & 1) == 1) {
                together[groups[node]]++;
            }
        }
        int quorum = -1;
        for (int group = 0; group < 3; group++) {
            if (together[group] > Integer.bitCount(members) / 2.0) {
                quorum = group;
            }
        }
        for (int node = 0; node < 5; node++) {
            if ((ups >> node & 1) == 0) {
                x.stop(node);
            }
            x.move(node, groups[node]);
        }
        String where = "members " + members + ", up " + ups + ", place " + place;
        due.is(where + ": canGet(0)", x.canGet(0), quorum < 0 ? ElectedStore.NO_QUORUM : 0);
        due.is(where + ": submit", x.submit(SET, 1, 7, 0), quorum < 0 ? ElectedStore.NO_QUORUM : 0);
        for (int node = 0; node < 5; node++) {
            boolean in = quorum >= 0 && (members >> node & ups >> node & 1) == 1 && groups[node] == quorum;
            due.is(where + ": local(" + node + ", 0)", x.local(node, 0), in ? 7 : 0);
            if (x.leader() == node) {
                due.holds(where + ": the leader is in the quorum", in);
            }
        }
        due.is(where + ": leader()", x.leader() < 0 ? 1 : 0, quorum < 0 ? 1 : 0);
    }

    private static void atMostOneGroup() {
        // Two groups that are each more than half of the members would be more than all of them: no run of calls can show
        // more than one. What can be shown is that two groups of the same size are none.
        due.sentence("(There is at most one such group.)");
        for (int group = 1; group < 3; group++) {
            ElectedStore x = withMembers(4);
            x.move(0, group);
            x.move(1, group);
            quorumIs("two and two of four", x, false);
            x = withMembers(2);
            x.move(0, group);
            quorumIs("one and one of two", x, false);
        }
    }
}
