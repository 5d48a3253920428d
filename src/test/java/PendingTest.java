/** Promises 10 and 11: submitAndStop, pending, and what a settling does with a pending command. */
public final class PendingTest {
    private static final int SET = Due.code(0, 2, 3);
    private static final Due due = new Due("PendingTest");

    public static void main(String[] args) {
        answersOfSubmit();
        droppedAtOnce();
        stillPending();
        theHolderComesBackFirst();
        theOthersGoOnWithoutIt();
        theHolderIsInAnotherGroup();
        aHolderWhoCannotHelpYet();
        everyKindIsDoneLater();
        theOnlyMemberHoldsIt();
        againAndAgain();
        theHolderMissesTheChoice();
        due.end();
    }

    private static void answersOfSubmit() {
        ElectedStore x = new ElectedStore();
        x.submit(SET, 5, 1, 0);
        String before = Due.seen(x);
        for (int code : Due.farOff()) {
            due.is("submitAndStop of no code", x.submitAndStop(code, 9, 1, 1), ElectedStore.BAD);
        }
        for (int number : new int[] {0, -1, Integer.MIN_VALUE}) {
            due.is("submitAndStop of a number below 1", x.submitAndStop(SET, number, 1, 1), ElectedStore.BAD);
        }
        due.is("4", x.submitAndStop(SET, 4, 9, 9), ElectedStore.OLD);
        due.is("5", x.submitAndStop(SET, 5, 9, 9), 1);
        due.holds("nothing happens, and nobody stops", Due.seen(x).equals(before));
        x.stop(2);
        x.stop(3);
        x.stop(4);
        before = Due.seen(x);
        due.is("BAD comes before NO_QUORUM", x.submitAndStop(-1, 4, 9, 9), ElectedStore.BAD);
        due.is("NO_QUORUM comes before OLD", x.submitAndStop(SET, 4, 9, 9), ElectedStore.NO_QUORUM);
        due.is("NO_QUORUM comes before 1", x.submitAndStop(SET, 5, 9, 9), ElectedStore.NO_QUORUM);
        due.is("NO_QUORUM", x.submitAndStop(SET, 6, 9, 9), ElectedStore.NO_QUORUM);
        due.holds("refused calls change nothing", Due.seen(x).equals(before));
        due.is("pending()", x.pending(), 0);
    }

    private static void droppedAtOnce() {
        ElectedStore x = new ElectedStore();
        due.is("submitAndStop", x.submitAndStop(SET, 1, 8, 0), 3);
        due.is("pending()", x.pending(), 0);
        due.is("isUp(0)", x.isUp(0), 0);
        due.is("isMember(0)", x.isMember(0), 1);
        due.is("leader()", x.leader(), 1);
        due.is("get(3)", x.get(3), 0);
        x.start(0);
        due.is("get(3): it is dropped for ever", x.get(3), 0);
        due.is("leader()", x.leader(), 1);
        for (int node = 0; node < 5; node++) {
            due.is("local(node, 3)", x.local(node, 3), 0);
            due.is("lastNumber(node, 2)", x.lastNumber(node, 2), 0);
        }
        due.is("its number is free still", x.submit(SET, 1, 9, 0), 0);
        due.is("get(3)", x.get(3), 9);
    }

    /** Nodes 0, 1, 2 of five are up; 0 leads, holds the command, and is down then. */
    private static ElectedStore held() {
        ElectedStore x = new ElectedStore();
        x.submit(Due.code(0, 0, 3), 1, 20, 0);
        x.stop(3);
        x.stop(4);
        due.is("submitAndStop", x.submitAndStop(SET, 7, 8, 0), 2);
        return x;
    }

    private static void stillPending() {
        ElectedStore x = held();
        due.is("pending()", x.pending(), 1);
        due.is("leader()", x.leader(), ElectedStore.NO_QUORUM);
        due.is("isUp(0)", x.isUp(0), 0);
        due.is("canGet(3)", x.canGet(3), ElectedStore.NO_QUORUM);
        for (int node = 0; node < 5; node++) {
            due.is("local(node, 3): it is not done by this call", x.local(node, 3), 20);
            due.is("lastNumber(node, 2)", x.lastNumber(node, 2), 0);
        }
        due.is("submit", x.submit(SET, 8, 1, 1), ElectedStore.NO_QUORUM);
        due.is("submitAndStop", x.submitAndStop(SET, 8, 1, 1), ElectedStore.NO_QUORUM);
        due.is("member(0, false)", x.member(0, false), ElectedStore.NO_QUORUM);
        due.is("pending()", x.pending(), 1);
    }

    private static void theHolderComesBackFirst() {
        ElectedStore x = held();
        due.is("start(0)", x.start(0), 1);
        due.is("pending()", x.pending(), 0);
        due.is("leader()", x.leader(), 0);
        due.is("get(3): it is done", x.get(3), 8);
        for (int node = 0; node < 5; node++) {
            boolean in = node < 3;
            due.is("local(node, 3)", x.local(node, 3), in ? 8 : 20);
            due.is("lastNumber(node, 2)", x.lastNumber(node, 2), in ? 7 : 0);
            due.is("answer(node, 2)", x.answer(node, 2), in ? 20 : 0);
        }
        due.is("the same number again", x.submit(SET, 7, 1, 1), 1);
        due.is("a lesser one", x.submit(SET, 6, 1, 1), ElectedStore.OLD);
        // It was a step, so 3 and 4 may not lead although no other step went by.
        x.stop(0);
        x.stop(1);
        x.start(3);
        due.is("leader() of 2, 3", x.leader(), ElectedStore.NO_QUORUM);
        x.start(1);
        due.is("leader() of 1, 2, 3", x.leader(), 1);
        ElectedStore y = new ElectedStore();
        y.stop(0);
        y.start(0);
        y.stop(0);
        y.stop(2);
        y.submitAndStop(SET, 1, 8, 0);
        due.is("pending(), held by 1", y.pending(), 1);
        y.start(1);
        due.is("leader() of 1, 3, 4", y.leader(), 1);
        y.stop(1);
        y.start(2);
        due.is("leader() of 2, 3, 4: 2 missed the command", y.leader(), 3);
    }

    private static void theOthersGoOnWithoutIt() {
        ElectedStore x = held();
        x.start(4);
        due.is("pending()", x.pending(), 0);
        due.is("leader() of 1, 2, 4", x.leader(), 1);
        due.is("get(3)", x.get(3), 20);
        x.start(0);
        due.is("get(3): it is dropped for ever", x.get(3), 20);
        due.is("leader()", x.leader(), 1);
        due.is("its number is free still", x.submit(SET, 7, 8, 0), 0);
    }

    private static void theHolderIsInAnotherGroup() {
        ElectedStore x = held();
        x.move(0, 1);
        x.start(0);
        due.is("pending(): 0 is alone in group 1", x.pending(), 1);
        x.move(1, 1);
        due.is("pending(): two of five", x.pending(), 1);
        x.move(2, 1);
        due.is("pending(): three of five with 0", x.pending(), 0);
        due.is("leader()", x.leader(), 0);
        due.is("get(3)", x.get(3), 8);

        x = held();
        x.move(0, 1);
        x.start(0);
        x.start(3);
        due.is("pending(): three of five without 0", x.pending(), 0);
        due.is("leader()", x.leader(), 1);
        due.is("get(3)", x.get(3), 20);
        x.move(0, 0);
        due.is("leader() after 0 came back", x.leader(), 1);
        due.is("get(3)", x.get(3), 20);
    }

    private static void aHolderWhoCannotHelpYet() {
        ElectedStore x = held();
        x.stop(1);
        x.start(0);
        due.is("pending(): 0 and 2 are no quorum", x.pending(), 1);
        due.is("leader()", x.leader(), ElectedStore.NO_QUORUM);
        due.is("local(0, 3)", x.local(0, 3), 20);
        x.start(4);
        due.is("pending()", x.pending(), 0);
        due.is("leader() of 0, 2, 4", x.leader(), 0);
        due.is("local(4, 3)", x.local(4, 3), 8);
        due.is("local(1, 3)", x.local(1, 3), 20);

        // The least node in the quorum is not the one that leads if another holds the command.
        x = new ElectedStore();
        x.stop(0);
        x.start(0);
        x.stop(2);
        x.stop(3);
        due.is("leader()", x.leader(), 1);
        due.is("submitAndStop", x.submitAndStop(SET, 1, 8, 0), 2);
        x.start(1);
        due.is("leader() of 0, 1, 4", x.leader(), 1);
        due.is("get(3)", x.get(3), 8);
    }

    private static void everyKindIsDoneLater() {
        for (int kind = 0; kind <= 2; kind++) {
            ElectedStore x = new ElectedStore();
            x.submit(Due.code(0, 0, 5), 1, 10, 0);
            x.stop(3);
            x.stop(4);
            due.is("submitAndStop", x.submitAndStop(Due.code(kind, 3, 5), 2, 10, -4), 2);
            x.start(0);
            due.is("get(5) by kind " + kind, x.get(5), kind == 0 ? 10 : kind == 1 ? 20 : -4);
            due.is("answer(1, 3)", x.answer(1, 3), 10);
            due.is("lastNumber(1, 3)", x.lastNumber(1, 3), 2);
        }
    }

    private static void theOnlyMemberHoldsIt() {
        ElectedStore x = new ElectedStore();
        for (int node = 0; node < 4; node++) {
            x.member(node, false);
        }
        due.is("leader()", x.leader(), 4);
        due.is("submitAndStop", x.submitAndStop(SET, 1, 8, 0), 2);
        x.move(4, 2);
        due.is("pending()", x.pending(), 1);
        x.start(4);
        due.is("pending()", x.pending(), 0);
        due.is("leader()", x.leader(), 4);
        due.is("get(3)", x.get(3), 8);
        due.is("local(0, 3)", x.local(0, 3), 0);

        // Of two members neither is more than half, so both are needed.
        x.move(4, 0);
        x.member(3, true);
        due.is("submitAndStop", x.submitAndStop(SET, 2, 9, 0), 2);
        x.stop(3);
        x.start(4);
        due.is("pending()", x.pending(), 1);
        x.start(3);
        due.is("pending()", x.pending(), 0);
        due.is("leader()", x.leader(), 4);
        due.is("local(3, 3)", x.local(3, 3), 9);
    }

    private static void againAndAgain() {
        ElectedStore x = new ElectedStore();
        due.is("submitAndStop", x.submitAndStop(Due.code(1, 0, 0), 1, 1, 0), 3);
        due.is("leader()", x.leader(), 1);
        due.is("submitAndStop", x.submitAndStop(Due.code(1, 0, 0), 1, 2, 0), 3);
        due.is("leader()", x.leader(), 2);
        due.is("submitAndStop", x.submitAndStop(Due.code(1, 0, 0), 1, 4, 0), 2);
        due.is("leader()", x.leader(), ElectedStore.NO_QUORUM);
        x.start(2);
        due.is("get(0): the last one alone is done", x.get(0), 4);
        due.is("submitAndStop", x.submitAndStop(Due.code(1, 0, 0), 2, 8, 0), 2);
        x.start(2);
        due.is("get(0): and then the next", x.get(0), 12);
        due.is("pending()", x.pending(), 0);
    }

    private static void theHolderMissesTheChoice() {
        // 0 held a command that was dropped when 1 was chosen; it is not current, so it may not lead at once.
        ElectedStore x = new ElectedStore();
        due.is("submitAndStop", x.submitAndStop(SET, 1, 8, 0), 3);
        x.stop(2);
        x.stop(1);
        x.start(0);
        due.is("leader() of 0, 3, 4", x.leader(), 3);
        due.is("get(3)", x.get(3), 0);
    }
}
