/** Promise 4: move. */
public final class MoveTest {
    private static final Due due = new Due("MoveTest");

    public static void main(String[] args) {
        answers();
        wrongInputs();
        leaderMovesAway();
        quorumInEveryGroup();
        quorumGoesOverWithTheLeader();
        downNodesMove();
        movedNodesFallBehindAndCatchUp();
        due.end();
    }

    private static void answers() {
        for (int node = 0; node < 5; node++) {
            ElectedStore x = new ElectedStore();
            due.is("move to the group it is in", x.move(node, 0), 0);
            due.is("move to 1", x.move(node, 1), 0);
            due.is("move to 2", x.move(node, 2), 1);
            due.is("move to 2 again", x.move(node, 2), 2);
            due.is("move to 0", x.move(node, 0), 2);
            due.is("and its group then", x.move(node, 0), 0);
        }
    }

    private static void wrongInputs() {
        ElectedStore x = new ElectedStore();
        x.move(1, 2);
        String before = Due.seen(x);
        due.is("move(5, 0)", x.move(5, 0), ElectedStore.BAD);
        due.is("move(0, 3)", x.move(0, 3), ElectedStore.BAD);
        due.is("move(5, 3)", x.move(5, 3), ElectedStore.BAD);
        for (int far : Due.farOff()) {
            due.is("move of no node", x.move(far, 0), ElectedStore.BAD);
            due.is("move to no group", x.move(0, far), ElectedStore.BAD);
        }
        due.holds("refused calls change nothing", Due.seen(x).equals(before));
        due.is("the group of 0", x.move(0, 0), 0);
        due.is("the group of 1", x.move(1, 2), 2);
    }

    private static void leaderMovesAway() {
        ElectedStore x = new ElectedStore();
        x.move(0, 1);
        due.is("leader() after 0 went to group 1", x.leader(), 1);
        x.move(0, 0);
        due.is("leader() after it came back", x.leader(), 1);
    }

    private static void quorumInEveryGroup() {
        for (int group = 1; group <= 2; group++) {
            ElectedStore x = new ElectedStore();
            x.move(0, group);
            x.move(1, group);
            due.is("leader() of three in group 0", x.leader(), 2);
            x.move(2, group);
            due.is("leader(): it went over with the quorum", x.leader(), 2);
            due.is("canGet(0)", x.canGet(0), 0);
            x.move(2, 3 - group);
            due.is("leader() with 2, 1, 2 nodes in the groups", x.leader(), ElectedStore.NO_QUORUM);
        }
    }

    private static void quorumGoesOverWithTheLeader() {
        ElectedStore x = new ElectedStore();
        x.member(3, false);
        x.member(4, false);
        x.move(2, 1);
        x.submit(Due.code(0, 0, 0), 1, 5, 0);
        due.is("local(2, 0)", x.local(2, 0), 0);
        x.move(0, 1);
        due.is("leader() stays 0", x.leader(), 0);
        due.is("local(2, 0) caught up", x.local(2, 0), 5);
        x.submit(Due.code(0, 0, 0), 2, 6, 0);
        due.is("local(1, 0) is left behind", x.local(1, 0), 5);
    }

    private static void downNodesMove() {
        ElectedStore x = new ElectedStore();
        x.stop(0);
        due.is("move of a node that is down", x.move(0, 2), 0);
        x.start(0);
        x.submit(Due.code(0, 0, 0), 1, 5, 0);
        due.is("local(0, 0) in another group", x.local(0, 0), 0);
        due.is("move back", x.move(0, 0), 2);
        due.is("local(0, 0) in the quorum", x.local(0, 0), 5);
    }

    private static void movedNodesFallBehindAndCatchUp() {
        ElectedStore x = new ElectedStore();
        x.move(4, 1);
        x.move(3, 2);
        x.submit(Due.code(0, 1, 3), 4, -8, 0);
        due.is("local(4, 3)", x.local(4, 3), 0);
        due.is("local(3, 3)", x.local(3, 3), 0);
        x.move(3, 1);
        due.is("local(3, 3) among the few", x.local(3, 3), 0);
        x.move(3, 0);
        due.is("local(3, 3)", x.local(3, 3), -8);
        due.is("local(4, 3)", x.local(4, 3), 0);
    }
}
