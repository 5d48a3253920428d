/**
 * Terms: who is current. No question asks it; it comes out when a leader is chosen. The probe is the same everywhere: node
 * 1 is away, then 1, 3 and 4 are the whole quorum and a leader is chosen: 1 if it is current, else 3.
 */
public final class StepTest {
    private static final int ADD = Due.code(1, 0, 0);
    private static final Due due = new Due("StepTest");

    public static void main(String[] args) {
        atFirstAllAre();
        aCommandIsDone();
        aPendingCommandIsDone();
        aNodeBecomesAMember();
        aNodeIsAMemberNoMore();
        aLeaderIsChosen();
        aLeaderIsChosenAfterNoQuorum();
        theNodeItselfIsTakenOut();
        nothingElseIsAStep();
        inTheQuorumAfterItCounts();
        due.end();
    }

    /** 1 is down, and leads 1, 3, 4 when it comes back if it is current; leader is the one who leads before. */
    private static int chosen(ElectedStore x, int leader) {
        if (leader != 2) {
            x.stop(2);
        }
        x.stop(0);
        x.stop(2);
        due.is("leader() of 3, 4", x.leader(), ElectedStore.NO_QUORUM);
        x.start(1);
        return x.leader();
    }

    private static ElectedStore without1() {
        ElectedStore x = new ElectedStore();
        x.stop(1);
        return x;
    }

    private static void atFirstAllAre() {
        due.sentence("A node is CURRENT or not; at first all are.");
        due.is("1, which missed nothing", chosen(without1(), 0), 1);
        ElectedStore x = new ElectedStore();
        x.stop(2);
        x.stop(1);
        x.stop(0);
        x.start(2);
        due.is("2, which missed nothing", x.leader(), 2);
        // 3 and 4 can't be shown like that: a quorum in which one of them is the least has other members than at first,
        // or lesser nodes that are behind, and both take a step, which they are in the quorum for or miss.
        x = new ElectedStore();
        x.stop(1);
        x.stop(2);
        x.stop(3);
        x.start(3);
        due.is("0, which led and missed nothing", x.leader(), 0);
    }

    private static void aCommandIsDone() {
        due.sentence("A STEP is one of these: a command is done");
        ElectedStore x = without1();
        due.is("submit", x.submit(ADD, 1, 5, 0), 0);
        due.is("1, which missed a command", chosen(x, 0), 3);
        x = without1();
        due.is("submit of a command that changes no value", x.submit(Due.code(2, 0, 0), 1, 9, 9), 0);
        due.is("1, which missed it", chosen(x, 0), 3);
        x = new ElectedStore();
        x.submit(ADD, 1, 5, 0);
        x.stop(1);
        due.is("1, which was there", chosen(x, 0), 1);
        x = new ElectedStore();
        x.move(1, 2);
        x.submit(ADD, 1, 5, 0);
        x.stop(1);
        x.move(1, 0);
        due.is("1, which was in another group", chosen(x, 0), 3);
    }

    private static void aPendingCommandIsDone() {
        due.sentence("A STEP is one of these: a command is done");
        // The holder's being chosen is a step of the same settling, among the same nodes: no run of calls can show the two
        // steps apart.
        ElectedStore x = without1();
        x.stop(2);
        due.is("submitAndStop", x.submitAndStop(ADD, 1, 5, 0), 2);
        x.start(0);
        due.is("pending()", x.pending(), 0);
        x.stop(0);
        x.start(1);
        due.is("1, which missed it", x.leader(), 3);
    }

    private static void aNodeBecomesAMember() {
        due.sentence("a node becomes a member or is none any more");
        ElectedStore x = new ElectedStore();
        x.member(2, false);
        x.stop(1);
        due.is("member(2, true)", x.member(2, true), 1);
        due.is("1, which was down then", chosen(x, 0), 3);
        x = new ElectedStore();
        x.member(2, false);
        x.member(2, true);
        x.stop(1);
        due.is("1, which was up then", chosen(x, 0), 1);
    }

    private static void aNodeIsAMemberNoMore() {
        due.sentence("a node becomes a member or is none any more");
        ElectedStore x = without1();
        due.is("member(2, false)", x.member(2, false), 1);
        x.stop(0);
        x.start(1);
        due.is("1, which was down then", x.leader(), 3);
        x = new ElectedStore();
        x.member(2, false);
        x.stop(1);
        x.stop(0);
        x.start(1);
        due.is("1, which was up then", x.leader(), 1);
    }

    private static void aLeaderIsChosen() {
        due.sentence("a leader is chosen");
        ElectedStore x = without1();
        x.stop(0);
        x.start(0);
        due.is("leader()", x.leader(), 2);
        due.is("1, which was down when 2 was chosen", chosen(x, 2), 3);
        x = new ElectedStore();
        x.stop(0);
        x.start(0);
        x.stop(1);
        x.start(1);
        due.is("leader(), chosen twice", x.leader(), 0);
        x.stop(1);
        due.is("1, which is current again", chosen(x, 0), 1);
        x = without1();
        x.move(0, 1);
        x.move(0, 0);
        due.is("1, which was down when 0 went and 2 was chosen", chosen(x, 2), 3);
        x = without1();
        x.member(0, false);
        x.member(0, true);
        due.is("1, which was down when 0 was taken out", chosen(x, 2), 3);
    }

    private static void aLeaderIsChosenAfterNoQuorum() {
        due.sentence("a leader is chosen");
        ElectedStore x = without1();
        x.stop(2);
        x.stop(3);
        x.start(3);
        due.is("leader() of 0, 3, 4, chosen anew", x.leader(), 0);
        x.stop(0);
        x.start(1);
        due.is("1, which was down then", x.leader(), 3);
        x = without1();
        x.stop(2);
        x.stop(0);
        due.is("leader() of 3, 4", x.leader(), ElectedStore.NO_QUORUM);
        x.start(1);
        due.is("1: nobody was chosen", x.leader(), 1);
    }

    private static void theNodeItselfIsTakenOut() {
        due.sentence("When there is a step, all nodes that are not in the quorum after it are not current any more.");
        // 1 is up and in the group, but no member after the step; it is taken in again while it is down.
        ElectedStore x = new ElectedStore();
        x.member(1, false);
        x.stop(1);
        x.member(1, true);
        due.is("1, which was taken out", chosen(x, 0), 3);
        x = new ElectedStore();
        x.member(1, false);
        x.member(1, true);
        x.stop(1);
        due.is("1, which was in the quorum again", chosen(x, 0), 1);
    }

    private static void nothingElseIsAStep() {
        due.sentence("A STEP is one of these: a command is done, a node becomes a member or is none any more, a leader is chosen.");
        ElectedStore x = new ElectedStore();
        x.submit(ADD, 5, 1, 0);
        x.stop(1);
        x.submit(ADD, 5, 1, 0);
        x.submitAndStop(ADD, 5, 1, 0);
        x.submit(ADD, 4, 1, 0);
        x.submit(72, 6, 1, 0);
        x.submit(ADD, 0, 1, 0);
        x.submitAndStop(-1, 6, 1, 0);
        due.is("repeated and refused commands", chosen(x, 0), 1);

        x = without1();
        x.member(3, true);
        x.member(5, false);
        x.stop(5);
        x.start(-1);
        x.move(0, 3);
        due.is("members that are so already, and refused calls", chosen(x, 0), 1);

        x = without1();
        x.stop(4);
        x.stop(4);
        x.start(4);
        x.start(0);
        x.move(3, 1);
        x.move(3, 0);
        x.move(1, 1);
        x.move(1, 0);
        x.compact();
        due.is("others come and go while the leader stays", chosen(x, 0), 1);

        x = without1();
        x.stop(2);
        due.is("submitAndStop", x.submitAndStop(ADD, 1, 5, 0), 2);
        x.start(1);
        due.is("a command that is pending", x.leader(), 1);

        x = without1();
        x.stop(2);
        due.is("SPLIT", x.member(3, false), ElectedStore.SPLIT);
        x.stop(0);
        x.start(1);
        due.is("a refused member", x.leader(), 1);
    }

    private static void inTheQuorumAfterItCounts() {
        due.sentence("When there is a step, all nodes that are not in the quorum after it are not current any more.");
        // 1 is in the quorum after it is taken in, so it is current at once, and is chosen before 3.
        ElectedStore x = new ElectedStore();
        x.member(1, false);
        x.submit(ADD, 1, 5, 0);
        x.member(1, true);
        x.stop(2);
        x.stop(0);
        due.is("leader() of 1, 3, 4", x.leader(), 1);
    }
}
