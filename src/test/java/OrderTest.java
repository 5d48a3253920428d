/**
 * 'In every method the tests are made in the order named': each pair of tests of one method that can both refuse. Where
 * both answer the same (move; local, get, answer; lastNumber, same), no run of calls can show which came first. stop, start,
 * isUp and isMember have one test alone; leader, pending, compact and faults have none.
 */
public final class OrderTest {
    private static final Due due = new Due("OrderTest");

    public static void main(String[] args) {
        due.sentence("In every method the tests are made in the order named");
        memberBadNodeWithoutAQuorum();
        memberAlreadyWithoutAQuorum();
        memberOnlyMemberWithoutAQuorum();
        memberSplitWithoutAQuorum();
        memberAlreadyAndTheOnlyOne();
        memberTheOnlyOneAndSplit();
        badCommandWithoutAQuorum();
        badCommandAndOld();
        oldWithoutAQuorum();
        lastWithoutAQuorum();
        canGetBadKeyWithoutAQuorum();
        due.end();
    }

    private static ElectedStore noQuorum() {
        ElectedStore x = new ElectedStore();
        x.submit(Due.code(1, 0, 0), 5, 1, 0);
        x.stop(0);
        x.stop(1);
        x.stop(2);
        return x;
    }

    private static ElectedStore onlyMember(int node) {
        ElectedStore x = new ElectedStore();
        for (int other = 0; other < 5; other++) {
            if (other != node) {
                x.member(other, false);
            }
        }
        return x;
    }

    private static void memberBadNodeWithoutAQuorum() {
        for (int node : Due.outside(5)) {
            due.is("member(" + node + ", true)", noQuorum().member(node, true), ElectedStore.BAD);
            due.is("member(" + node + ", false)", noQuorum().member(node, false), ElectedStore.BAD);
        }
    }

    private static void memberAlreadyWithoutAQuorum() {
        for (int node = 0; node < 5; node++) {
            due.is("member(" + node + ", true)", noQuorum().member(node, true), ElectedStore.NO_QUORUM);
        }
        ElectedStore x = new ElectedStore();
        x.member(4, false);
        x.stop(0);
        x.stop(1);
        due.is("member(4, false), none already", x.member(4, false), ElectedStore.NO_QUORUM);
    }

    private static void memberOnlyMemberWithoutAQuorum() {
        for (int node = 0; node < 5; node++) {
            ElectedStore x = onlyMember(node);
            x.stop(node);
            due.is("member(" + node + ", false)", x.member(node, false), ElectedStore.NO_QUORUM);
            due.is("member(" + node + ", true)", x.member(node, true), ElectedStore.NO_QUORUM);
        }
    }

    private static void memberSplitWithoutAQuorum() {
        // With the members that there would be, no group would be more than half of them either.
        for (int node = 0; node < 5; node++) {
            due.is("member(" + node + ", false)", noQuorum().member(node, false), ElectedStore.NO_QUORUM);
        }
        ElectedStore x = onlyMember(3);
        x.stop(3);
        due.is("member(0, true), one of two", x.member(0, true), ElectedStore.NO_QUORUM);
        // Here they would be: 1 and 2 of four are no quorum, but would be one of three.
        x = new ElectedStore();
        x.member(4, false);
        x.stop(0);
        x.stop(3);
        due.is("member(3, false), which would help", x.member(3, false), ElectedStore.NO_QUORUM);
        due.is("member(4, true), which would help", x.member(4, true), ElectedStore.NO_QUORUM);
    }

    private static void memberAlreadyAndTheOnlyOne() {
        for (int node = 0; node < 5; node++) {
            due.is("member(" + node + ", true)", onlyMember(node).member(node, true), 0);
            due.is("member of another, false", onlyMember(node).member((node + 1) % 5, false), 0);
        }
        // 'already so' and SPLIT can't both be: with the members as they are, the quorum is more than half of them.
    }

    private static void memberTheOnlyOneAndSplit() {
        // Without the only member, none of no members would be up, and that is not more than half of none.
        for (int node = 0; node < 5; node++) {
            due.is("member(" + node + ", false)", onlyMember(node).member(node, false), ElectedStore.LAST);
        }
    }

    private static void badCommandWithoutAQuorum() {
        for (int code : Due.outside(72)) {
            for (int number : new int[] {1, 4, 5, 6}) {
                due.is("submit(" + code + ", ..)", noQuorum().submit(code, number, 1, 1), ElectedStore.BAD);
                due.is("submitAndStop(" + code + ", ..)", noQuorum().submitAndStop(code, number, 1, 1), ElectedStore.BAD);
            }
        }
        for (int number : new int[] {0, -1, Due.MIN}) {
            due.is("submit(0, " + number + ", ..)", noQuorum().submit(0, number, 1, 1), ElectedStore.BAD);
            due.is("submitAndStop(0, " + number + ", ..)", noQuorum().submitAndStop(0, number, 1, 1), ElectedStore.BAD);
        }
    }

    private static void badCommandAndOld() {
        ElectedStore x = new ElectedStore();
        for (int session = 0; session < 4; session++) {
            x.submit(Due.code(0, session, 0), 5, 1, 0);
        }
        for (int number : new int[] {0, -1, Due.MIN}) {
            due.is("submit(0, " + number + ", ..)", x.submit(0, number, 1, 1), ElectedStore.BAD);
            due.is("submitAndStop(0, " + number + ", ..)", x.submitAndStop(0, number, 1, 1), ElectedStore.BAD);
        }
        for (int code : Due.outside(72)) {
            for (int number : new int[] {1, 4, 5}) {
                due.is("submit(" + code + ", ..)", x.submit(code, number, 1, 1), ElectedStore.BAD);
                due.is("submitAndStop(" + code + ", ..)", x.submitAndStop(code, number, 1, 1), ElectedStore.BAD);
            }
        }
        // A session that has had no command has the last number 0, which is too small to be repeated.
        x = new ElectedStore();
        due.is("submit(0, 0, ..) on a new object", x.submit(0, 0, 1, 1), ElectedStore.BAD);
        due.is("submitAndStop(0, 0, ..) on a new object", x.submitAndStop(0, 0, 1, 1), ElectedStore.BAD);
    }

    private static void oldWithoutAQuorum() {
        for (int number = 1; number <= 4; number++) {
            due.is("submit(0, " + number + ", ..)", noQuorum().submit(0, number, 1, 1), ElectedStore.NO_QUORUM);
            due.is("submitAndStop(0, " + number + ", ..)", noQuorum().submitAndStop(0, number, 1, 1), ElectedStore.NO_QUORUM);
        }
    }

    private static void lastWithoutAQuorum() {
        due.is("submit(0, 5, ..)", noQuorum().submit(0, 5, 1, 1), ElectedStore.NO_QUORUM);
        due.is("submitAndStop(0, 5, ..)", noQuorum().submitAndStop(0, 5, 1, 1), ElectedStore.NO_QUORUM);
    }

    private static void canGetBadKeyWithoutAQuorum() {
        for (int key : Due.outside(6)) {
            due.is("canGet(" + key + ")", noQuorum().canGet(key), ElectedStore.BAD);
        }
    }
}
