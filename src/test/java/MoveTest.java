/** Promise 4: move. */
public final class MoveTest {
    private static final Due due = new Due("MoveTest");

    public static void main(String[] args) {
        answers();
        everyWayBetweenGroups();
        wrongGroups();
        wrongNodes();
        inAnyState();
        leaderMovesAway();
        quorumInEveryGroup();
        quorumGoesOverWithTheLeader();
        downNodesMove();
        movedNodesFallBehindAndCatchUp();
        due.end();
    }

    private static void answers() {
        due.sentence("Else answers the group in which it was.");
        for (int node = 0; node < 5; node++) {
            ElectedStore x = new ElectedStore();
            due.is("move to the group it is in", x.move(node, 0), 0);
            due.is("move to 1", x.move(node, 1), 0);
            due.is("move to 2", x.move(node, 2), 1);
            due.is("move to 2 again", x.move(node, 2), 2);
            due.is("move to 0", x.move(node, 0), 2);
            due.is("and its group then", x.move(node, 0), 0);
        }
    }

    private static void everyWayBetweenGroups() {
        due.sentence("Else answers the group in which it was.");
        for (int place = 0; place < 243; place++) {
            ElectedStore x = new ElectedStore();
            int[] groups = {place % 3, place / 3 % 3, place / 9 % 3, place / 27 % 3, place / 81};
            for (int node = 0; node < 5; node++) {
                due.is("move(" + node + ", " + groups[node] + ")", x.move(node, groups[node]), 0);
            }
            for (int node = 0; node < 5; node++) {
                due.is("move(" + node + ", 1) in " + place, x.move(node, 1), groups[node]);
            }
        }
    }

    private static void wrongGroups() {
        due.sentence("node is not good, or group is not 0 .. 2: BAD.");
        for (int node = 0; node < 5; node++) {
            for (int group : Due.outside(3)) {
                ElectedStore x = new ElectedStore();
                x.move(node, 2);
                String before = Due.seen(x);
                due.is("move(" + node + ", " + group + ")", x.move(node, group), ElectedStore.BAD);
                due.alike("questions after it", Due.seen(x), before);
                due.is("and its group then", x.move(node, 0), 2);
            }
        }
    }

    private static void wrongNodes() {
        due.sentence("node is not good, or group is not 0 .. 2: BAD.");
        for (int node : Due.outside(5)) {
            ElectedStore x = new ElectedStore();
            x.move(1, 2);
            String before = Due.seen(x);
            due.is("move(" + node + ", 1)", x.move(node, 1), ElectedStore.BAD);
            due.is("move(" + node + ", 3)", x.move(node, 3), ElectedStore.BAD);
            due.is("move(" + node + ", -1)", x.move(node, -1), ElectedStore.BAD);
            due.alike("questions after it", Due.seen(x), before);
            for (int good = 0; good < 5; good++) {
                due.is("the group of " + good, x.move(good, 0), good == 1 ? 2 : 0);
            }
        }
    }

    private static void inAnyState() {
        // No state refuses it: a node may be down, no member, or without a quorum.
        due.sentence("A node goes to a group; then there is a settling.");
        for (var state : States.all().entrySet()) {
            for (int node = 0; node < 5; node++) {
                for (int group = 0; group < 3; group++) {
                    ElectedStore x = States.at(state.getValue());
                    int was = x.move(node, group);
                    due.holds("it was in a group", was >= 0 && was <= 2);
                    due.is("move(" + node + ", " + group + ") in state '" + state.getKey() + "'", x.move(node, 0), group);
                }
            }
        }
    }

    private static void leaderMovesAway() {
        due.sentence("A node goes to a group; then there is a settling.");
        ElectedStore x = new ElectedStore();
        x.move(0, 1);
        due.is("leader() after 0 went to group 1", x.leader(), 1);
        x.move(0, 0);
        due.is("leader() after it came back", x.leader(), 1);
    }

    private static void quorumInEveryGroup() {
        due.sentence("A node goes to a group; then there is a settling.");
        for (int group = 1; group <= 2; group++) {
            ElectedStore x = new ElectedStore();
            x.move(0, group);
            x.move(1, group);
            due.is("leader() of three in group 0", x.leader(), 2);
            x.move(2, group);
            due.is("leader(): it went over with the quorum", x.leader(), 2);
            due.is("canGet(0)", x.canGet(0), 0);
            x.move(2, 3 - group);
            due.is("leader() with 2, 1, 2 nodes in the groups", x.leader(), ElectedStore.NO_QUORUM);
        }
    }

    private static void quorumGoesOverWithTheLeader() {
        due.sentence("A node goes to a group; then there is a settling.");
        ElectedStore x = new ElectedStore();
        x.member(3, false);
        x.member(4, false);
        x.move(2, 1);
        x.submit(Due.code(0, 0, 0), 1, 5, 0);
        due.is("local(2, 0)", x.local(2, 0), 0);
        x.move(0, 1);
        due.is("leader() stays 0", x.leader(), 0);
        due.is("local(2, 0) caught up", x.local(2, 0), 5);
        x.submit(Due.code(0, 0, 0), 2, 6, 0);
        due.is("local(1, 0) is left behind", x.local(1, 0), 5);
    }

    private static void downNodesMove() {
        due.sentence("A node goes to a group; then there is a settling.");
        ElectedStore x = new ElectedStore();
        x.stop(0);
        due.is("move of a node that is down", x.move(0, 2), 0);
        x.start(0);
        x.submit(Due.code(0, 0, 0), 1, 5, 0);
        due.is("local(0, 0) in another group", x.local(0, 0), 0);
        due.is("move back", x.move(0, 0), 2);
        due.is("local(0, 0) in the quorum", x.local(0, 0), 5);
    }

    private static void movedNodesFallBehindAndCatchUp() {
        due.sentence("A node goes to a group; then there is a settling.");
        ElectedStore x = new ElectedStore();
        x.move(4, 1);
        x.move(3, 2);
        x.submit(Due.code(0, 1, 3), 4, -8, 0);
        due.is("local(4, 3)", x.local(4, 3), 0);
        due.is("local(3, 3)", x.local(3, 3), 0);
        x.move(3, 1);
        due.is("local(3, 3) among the few", x.local(3, 3), 0);
        x.move(3, 0);
        due.is("local(3, 3)", x.local(3, 3), -8);
        due.is("local(4, 3)", x.local(4, 3), 0);
    }
}
