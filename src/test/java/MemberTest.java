/** Promises 5 and 7: member, isMember. */
public final class MemberTest {
    private static final Due due = new Due("MemberTest");

    public static void main(String[] args) {
        answersOfEveryNode();
        wrongNodes();
        withoutAQuorum();
        alreadySo();
        theOnlyMember();
        splitByTakingOut();
        splitByTakingIn();
        theQuorumShrinks();
        theLeaderIsTakenOut();
        aNewMemberCatchesUp();
        itIsAStep();
        due.end();
    }

    private static void answersOfEveryNode() {
        for (int node = 0; node < 5; node++) {
            ElectedStore x = new ElectedStore();
            due.is("member(node, false)", x.member(node, false), 1);
            for (int other = 0; other < 5; other++) {
                due.is("isMember", x.isMember(other), other == node ? 0 : 1);
                due.is("isUp", x.isUp(other), 1);
            }
            due.is("member(node, true)", x.member(node, true), 1);
            due.is("isMember", x.isMember(node), 1);
        }
    }

    private static void wrongNodes() {
        ElectedStore x = new ElectedStore();
        String before = Due.seen(x);
        due.is("member(5, true)", x.member(5, true), ElectedStore.BAD);
        due.is("member(5, false)", x.member(5, false), ElectedStore.BAD);
        due.is("isMember(5)", x.isMember(5), ElectedStore.BAD);
        for (int node : Due.farOff()) {
            due.is("member of no node", x.member(node, true), ElectedStore.BAD);
            due.is("member of no node", x.member(node, false), ElectedStore.BAD);
            due.is("isMember of no node", x.isMember(node), ElectedStore.BAD);
        }
        due.holds("refused calls change nothing", Due.seen(x).equals(before));
        x.stop(0);
        x.stop(1);
        x.stop(2);
        due.is("BAD comes before NO_QUORUM", x.member(-1, true), ElectedStore.BAD);
    }

    private static void withoutAQuorum() {
        ElectedStore x = new ElectedStore();
        x.stop(0);
        x.stop(1);
        x.stop(2);
        String before = Due.seen(x);
        due.is("NO_QUORUM comes before 0", x.member(3, true), ElectedStore.NO_QUORUM);
        due.is("member(0, false)", x.member(0, false), ElectedStore.NO_QUORUM);
        due.holds("refused calls change nothing", Due.seen(x).equals(before));
    }

    private static void alreadySo() {
        ElectedStore x = new ElectedStore();
        x.member(4, false);
        String before = Due.seen(x);
        due.is("member(4, false) again", x.member(4, false), 0);
        due.is("member(1, true)", x.member(1, true), 0);
        due.holds("nothing happens", Due.seen(x).equals(before));
        // No step either: 2 stays current and may lead when it comes back.
        ElectedStore y = new ElectedStore();
        y.stop(2);
        due.is("member(3, true)", y.member(3, true), 0);
        y.stop(1);
        y.stop(0);
        y.start(2);
        due.is("leader() of 2, 3, 4", y.leader(), 2);
    }

    private static ElectedStore onlyMember(int node) {
        ElectedStore x = new ElectedStore();
        for (int other = 4; other >= 0; other--) {
            if (other != node) {
                due.is("member(other, false)", x.member(other, false), 1);
            }
        }
        return x;
    }

    private static void theOnlyMember() {
        for (int node = 0; node < 5; node++) {
            ElectedStore x = onlyMember(node);
            due.is("leader()", x.leader(), node);
            String before = Due.seen(x);
            due.is("LAST, before SPLIT", x.member(node, false), ElectedStore.LAST);
            due.is("0 comes before LAST", x.member(node, true), 0);
            due.holds("refused calls change nothing", Due.seen(x).equals(before));
            x.move(node, 1);
            due.is("leader() after it moved alone", x.leader(), node);
            x.stop(node);
            due.is("leader() after it went down", x.leader(), ElectedStore.NO_QUORUM);
            due.is("NO_QUORUM comes before LAST", x.member(node, false), ElectedStore.NO_QUORUM);
        }
    }

    private static void splitByTakingOut() {
        ElectedStore x = new ElectedStore();
        x.stop(3);
        x.move(4, 1);
        String before = Due.seen(x);
        for (int node = 0; node < 3; node++) {
            due.is("two of four would be left", x.member(node, false), ElectedStore.SPLIT);
        }
        due.holds("refused calls change nothing", Due.seen(x).equals(before));
        due.is("three of four are left", x.member(3, false), 1);
        due.is("two of three are left", x.member(2, false), 1);
        due.is("one of two would be left", x.member(0, false), ElectedStore.SPLIT);
        due.is("two of two are left", x.member(4, false), 1);
        due.is("one of one is left", x.member(0, false), 1);
        due.is("leader()", x.leader(), 1);
    }

    private static void splitByTakingIn() {
        ElectedStore x = onlyMember(2);
        x.stop(0);
        x.move(1, 1);
        String before = Due.seen(x);
        due.is("one of two: it is down", x.member(0, true), ElectedStore.SPLIT);
        due.is("one of two: it is in another group", x.member(1, true), ElectedStore.SPLIT);
        due.holds("refused calls change nothing", Due.seen(x).equals(before));
        due.is("two of two", x.member(3, true), 1);
        due.is("two of three", x.member(0, true), 1);
        due.is("two of four", x.member(1, true), ElectedStore.SPLIT);
        due.is("isMember(1)", x.isMember(1), 0);
        due.is("three of four", x.member(4, true), 1);
        due.is("three of five", x.member(1, true), 1);
    }

    private static void theQuorumShrinks() {
        ElectedStore x = new ElectedStore();
        x.member(4, false);
        x.stop(3);
        due.is("three of four", x.canGet(0), 0);
        x.stop(2);
        due.is("two of four are not more than half", x.canGet(0), ElectedStore.NO_QUORUM);
        due.is("leader()", x.leader(), ElectedStore.NO_QUORUM);
        x.start(2);
        x.member(3, false);
        x.stop(2);
        due.is("two of three", x.canGet(0), 0);
        x.stop(1);
        due.is("one of three, though two that are none are up", x.canGet(0), ElectedStore.NO_QUORUM);
    }

    private static void theLeaderIsTakenOut() {
        ElectedStore x = new ElectedStore();
        due.is("member(0, false)", x.member(0, false), 1);
        due.is("leader()", x.leader(), 1);
        due.is("member(2, false)", x.member(2, false), 1);
        due.is("leader() stays", x.leader(), 1);
        due.is("member(0, true)", x.member(0, true), 1);
        due.is("leader() stays", x.leader(), 1);
        due.is("member(4, false)", x.member(4, false), 1);
        due.is("leader() stays, though 0 is less and current", x.leader(), 1);
        due.is("member(4, true)", x.member(4, true), 1);
        due.is("leader() stays, though 0 is less and current", x.leader(), 1);
        due.is("member(1, false)", x.member(1, false), 1);
        due.is("leader()", x.leader(), 0);
    }

    private static void aNewMemberCatchesUp() {
        ElectedStore x = new ElectedStore();
        x.member(3, false);
        x.submit(Due.code(0, 0, 1), 1, 5, 0);
        due.is("local(3, 1): it is no member", x.local(3, 1), 0);
        x.stop(3);
        x.start(3);
        due.is("local(3, 1): still none", x.local(3, 1), 0);
        x.member(3, true);
        due.is("local(3, 1)", x.local(3, 1), 5);
        x.member(3, false);
        x.submit(Due.code(0, 0, 1), 2, 6, 0);
        x.stop(3);
        x.member(3, true);
        due.is("local(3, 1): a member, but down", x.local(3, 1), 5);
        x.start(3);
        due.is("local(3, 1): up again", x.local(3, 1), 6);
    }

    private static void itIsAStep() {
        // Whether 1 is down during the step decides whether it may lead when it comes back.
        ElectedStore x = new ElectedStore();
        x.member(4, false);
        x.stop(1);
        x.stop(0);
        due.is("leader() of 2, 3", x.leader(), ElectedStore.NO_QUORUM);
        x.start(1);
        due.is("leader() of 1, 2, 3: 1 was up when 4 was taken out", x.leader(), 1);

        x = new ElectedStore();
        x.stop(1);
        x.member(4, false);
        x.stop(0);
        x.start(1);
        due.is("leader() of 1, 2, 3: 1 was down when 4 was taken out", x.leader(), 2);

        x = new ElectedStore();
        x.member(4, false);
        x.member(4, true);
        x.stop(1);
        x.stop(2);
        x.stop(0);
        x.start(1);
        due.is("leader() of 1, 3, 4: 1 was up when 4 was taken in", x.leader(), 1);

        x = new ElectedStore();
        x.member(4, false);
        x.stop(1);
        x.member(4, true);
        x.stop(2);
        x.stop(0);
        x.start(1);
        due.is("leader() of 1, 3, 4: 1 was down when 4 was taken in", x.leader(), 3);
    }
}
