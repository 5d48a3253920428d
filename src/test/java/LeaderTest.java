/** Promise 8: leader, and how a settling chooses one. */
public final class LeaderTest {
    private static final Due due = new Due("LeaderTest");

    public static void main(String[] args) {
        theLeaderStays();
        theLeastIsChosen();
        onlyCurrentNodesAreChosen();
        aNodeThatMissedNoStepIsChosen();
        choosingIsAStep();
        commandsAreSteps();
        noQuorumNoLeader();
        due.end();
    }

    private static void theLeaderStays() {
        ElectedStore x = new ElectedStore();
        x.stop(0);
        x.start(0);
        due.is("leader() after 0 came back", x.leader(), 1);
        x.stop(2);
        x.move(3, 1);
        due.is("leader() of 0, 1, 4", x.leader(), 1);
        x.submit(Due.code(0, 0, 0), 1, 1, 1);
        due.is("leader() after a command", x.leader(), 1);
    }

    private static void theLeastIsChosen() {
        ElectedStore x = new ElectedStore();
        x.stop(0);
        due.is("leader() of 1, 2, 3, 4", x.leader(), 1);
        x.start(0);
        x.stop(1);
        due.is("leader() of 0, 2, 3, 4", x.leader(), 0);
        x.move(0, 2);
        due.is("leader() of 2, 3, 4", x.leader(), 2);
    }

    private static void onlyCurrentNodesAreChosen() {
        ElectedStore x = new ElectedStore();
        x.stop(0);
        x.stop(1);
        due.is("leader() of 2, 3, 4", x.leader(), 2);
        x.stop(2);
        due.is("leader() of 3, 4", x.leader(), ElectedStore.NO_QUORUM);
        x.start(0);
        due.is("leader() of 0, 3, 4: 0 missed two choices", x.leader(), 3);
        due.is("local is the state", x.same(0, 3), 1);
        x.stop(3);
        x.start(1);
        due.is("leader() of 0, 1, 4: 0 has caught up, but 1 has not", x.leader(), 0);
    }

    private static void aNodeThatMissedNoStepIsChosen() {
        ElectedStore x = new ElectedStore();
        x.stop(1);
        x.stop(2);
        x.stop(0);
        due.is("leader() of 3, 4", x.leader(), ElectedStore.NO_QUORUM);
        x.start(2);
        due.is("leader() of 2, 3, 4", x.leader(), 2);
    }

    private static void choosingIsAStep() {
        ElectedStore x = new ElectedStore();
        x.stop(1);
        x.stop(0);
        due.is("leader() of 2, 3, 4, a choice without 1", x.leader(), 2);
        x.stop(2);
        x.start(1);
        due.is("leader() of 1, 3, 4", x.leader(), 3);
    }

    private static void commandsAreSteps() {
        ElectedStore x = new ElectedStore();
        x.stop(1);
        x.submit(Due.code(1, 0, 0), 1, 0, 0);
        x.stop(2);
        x.stop(0);
        x.start(1);
        due.is("leader() of 1, 3, 4: 1 missed a command", x.leader(), 3);
        x = new ElectedStore();
        x.submit(Due.code(1, 0, 0), 1, 0, 0);
        x.stop(1);
        x.submit(Due.code(1, 0, 0), 1, 0, 0);
        x.stop(2);
        x.stop(0);
        x.start(1);
        due.is("leader() of 1, 3, 4: a repeated command is no step", x.leader(), 1);
    }

    private static void noQuorumNoLeader() {
        ElectedStore x = new ElectedStore();
        x.stop(3);
        x.stop(4);
        x.move(2, 1);
        due.is("leader() of 0, 1", x.leader(), ElectedStore.NO_QUORUM);
        x.stop(2);
        x.move(2, 0);
        due.is("leader() of 0, 1", x.leader(), ElectedStore.NO_QUORUM);
        x.start(2);
        due.is("leader() of 0, 1, 2", x.leader(), 0);
        x.move(0, 2);
        x.move(1, 1);
        x.move(0, 0);
        due.is("leader() of 0, 2 and 1", x.leader(), ElectedStore.NO_QUORUM);
        x.start(3);
        due.is("leader() of 0, 2, 3", x.leader(), 0);
    }
}
