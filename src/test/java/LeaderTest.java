/** Promise 8: leader. The settling, point by point, is in SettlingTest, and who is current in StepTest. */
public final class LeaderTest {
    private static final Due due = new Due("LeaderTest");

    public static void main(String[] args) {
        theLeaderStays();
        theLeastIsChosen();
        onlyCurrentNodesAreChosen();
        aNodeThatMissedNoStepIsChosen();
        choosingIsAStep();
        commandsAreSteps();
        noQuorumNoLeader();
        everyNodeLeads();
        inEveryState();
        due.end();
    }

    private static void theLeaderStays() {
        due.sentence("2. If there was a leader, and it is in the quorum still, it stays leader.");
        ElectedStore x = new ElectedStore();
        x.stop(0);
        x.start(0);
        due.is("leader() after 0 came back", x.leader(), 1);
        x.stop(2);
        x.move(3, 1);
        due.is("leader() of 0, 1, 4", x.leader(), 1);
        x.submit(Due.code(0, 0, 0), 1, 1, 1);
        due.is("leader() after a command", x.leader(), 1);
    }

    private static void theLeastIsChosen() {
        due.sentence("the least node in the quorum that is current");
        ElectedStore x = new ElectedStore();
        x.stop(0);
        due.is("leader() of 1, 2, 3, 4", x.leader(), 1);
        x.start(0);
        x.stop(1);
        due.is("leader() of 0, 2, 3, 4", x.leader(), 0);
        x.move(0, 2);
        due.is("leader() of 2, 3, 4", x.leader(), 2);
    }

    private static void onlyCurrentNodesAreChosen() {
        due.sentence("the least node in the quorum that is current");
        ElectedStore x = new ElectedStore();
        x.stop(0);
        x.stop(1);
        due.is("leader() of 2, 3, 4", x.leader(), 2);
        x.stop(2);
        due.is("leader() of 3, 4", x.leader(), ElectedStore.NO_QUORUM);
        x.start(0);
        due.is("leader() of 0, 3, 4: 0 missed two choices", x.leader(), 3);
        due.is("local is the state", x.same(0, 3), 1);
        x.stop(3);
        x.start(1);
        due.is("leader() of 0, 1, 4: 0 has caught up, but 1 has not", x.leader(), 0);
    }

    private static void aNodeThatMissedNoStepIsChosen() {
        due.sentence("the least node in the quorum that is current");
        ElectedStore x = new ElectedStore();
        x.stop(1);
        x.stop(2);
        x.stop(0);
        due.is("leader() of 3, 4", x.leader(), ElectedStore.NO_QUORUM);
        x.start(2);
        due.is("leader() of 2, 3, 4", x.leader(), 2);
    }

    private static void choosingIsAStep() {
        due.sentence("becomes leader (a step)");
        ElectedStore x = new ElectedStore();
        x.stop(1);
        x.stop(0);
        due.is("leader() of 2, 3, 4, a choice without 1", x.leader(), 2);
        x.stop(2);
        x.start(1);
        due.is("leader() of 1, 3, 4", x.leader(), 3);
    }

    private static void commandsAreSteps() {
        due.sentence("A STEP is one of these: a command is done");
        ElectedStore x = new ElectedStore();
        x.stop(1);
        x.submit(Due.code(1, 0, 0), 1, 0, 0);
        x.stop(2);
        x.stop(0);
        x.start(1);
        due.is("leader() of 1, 3, 4: 1 missed a command", x.leader(), 3);
        x = new ElectedStore();
        x.submit(Due.code(1, 0, 0), 1, 0, 0);
        x.stop(1);
        x.submit(Due.code(1, 0, 0), 1, 0, 0);
        x.stop(2);
        x.stop(0);
        x.start(1);
        due.is("leader() of 1, 3, 4: a repeated command is no step", x.leader(), 1);
    }

    private static void noQuorumNoLeader() {
        due.sentence("The leader; NO_QUORUM if there is none.");
        ElectedStore x = new ElectedStore();
        x.stop(3);
        x.stop(4);
        x.move(2, 1);
        due.is("leader() of 0, 1", x.leader(), ElectedStore.NO_QUORUM);
        x.stop(2);
        x.move(2, 0);
        due.is("leader() of 0, 1", x.leader(), ElectedStore.NO_QUORUM);
        x.start(2);
        due.is("leader() of 0, 1, 2", x.leader(), 0);
        x.move(0, 2);
        x.move(1, 1);
        x.move(0, 0);
        due.is("leader() of 0, 2 and 1", x.leader(), ElectedStore.NO_QUORUM);
        x.start(3);
        due.is("leader() of 0, 2, 3", x.leader(), 0);
    }

    private static void everyNodeLeads() {
        due.sentence("The leader; NO_QUORUM if there is none.");
        ElectedStore x = new ElectedStore();
        for (int node = 0; node < 5; node++) {
            due.is("leader()", x.leader(), node);
            if (node < 4) {
                x.member(node, false);
            }
        }
        x.stop(4);
        due.is("leader() with the only member down", x.leader(), ElectedStore.NO_QUORUM);
        for (int node = 0; node < 4; node++) {
            due.is("isUp(" + node + ")", x.isUp(node), 1);
        }
        x.start(4);
        due.is("leader() with it up", x.leader(), 4);
    }

    private static void inEveryState() {
        // While there is a quorum there is always a leader: those who are current are more than half of the members too, so
        // the quorum has one of them (ReachTest goes through every state to see that).
        due.sentence("The leader; NO_QUORUM if there is none.");
        for (var state : States.all().entrySet()) {
            ElectedStore x = States.at(state.getValue());
            int leader = x.leader();
            if (x.canGet(0) == 0) {
                due.is("isUp of the leader in state '" + state.getKey() + "'", x.isUp(leader), 1);
                due.is("isMember of the leader", x.isMember(leader), 1);
            } else {
                due.is("leader() in state '" + state.getKey() + "'", leader, ElectedStore.NO_QUORUM);
            }
        }
    }
}
