/**
 * Promises 10 and 11: submitAndStop, pending. What a settling does with a pending command is in SettlingTest too, pairs of
 * refusals are in OrderTest.
 */
public final class PendingTest {
    private static final int SET = Due.code(0, 2, 3);
    private static final Due due = new Due("PendingTest");

    public static void main(String[] args) {
        wrongCodes();
        wrongNumbers();
        oldAndLastNumbers();
        noQuorum();
        theLeaderGoesDown();
        thereIsASettling();
        twoOrThreeAtEveryNumberOfMembers();
        everyLeaderHolds();
        pendingInEveryState();
        droppedAtOnce();
        stillPending();
        theHolderComesBackFirst();
        theOthersGoOnWithoutIt();
        theHolderIsInAnotherGroup();
        aHolderWhoCannotHelpYet();
        everyKindIsDoneLater();
        theOnlyMemberHoldsIt();
        againAndAgain();
        theHolderMissesTheChoice();
        due.end();
    }

    private static void wrongCodes() {
        due.sentence("As submit, with the same answers below 0, and 1");
        for (int code : Due.outside(72)) {
            for (int number : new int[] {1, 9, Due.MAX, 0}) {
                ElectedStore x = States.at(States::fill);
                String before = Due.seen(x);
                due.is("submitAndStop(" + code + ", " + number + ", ..)", x.submitAndStop(code, number, 1, 1), ElectedStore.BAD);
                due.alike("questions after it: nobody stops", Due.seen(x), before);
            }
        }
    }

    private static void wrongNumbers() {
        due.sentence("As submit, with the same answers below 0, and 1");
        for (int number : new int[] {0, -1, -2, -256, -65536, Due.MIN + 1, Due.MIN}) {
            for (int code : new int[] {0, 1, 35, 70, 71}) {
                ElectedStore x = new ElectedStore();
                String before = Due.seen(x);
                due.is("submitAndStop(" + code + ", " + number + ", ..)", x.submitAndStop(code, number, 1, 1), ElectedStore.BAD);
                due.alike("questions after it: nobody stops", Due.seen(x), before);
            }
        }
    }

    private static void oldAndLastNumbers() {
        due.sentence("As submit, with the same answers below 0, and 1");
        for (int session = 0; session < 4; session++) {
            ElectedStore x = States.at(States::fill);
            String before = Due.seen(x);
            due.is("a lesser number", x.submitAndStop(Due.code(0, session, 3), 29 + session, 9, 9), ElectedStore.OLD);
            due.is("the least number", x.submitAndStop(Due.code(0, session, 3), 1, 9, 9), ElectedStore.OLD);
            due.is("the last number", x.submitAndStop(Due.code(0, session, 3), 30 + session, 9, 9), 1);
            due.alike("questions after them: nobody stops", Due.seen(x), before);
            due.is("a greater number", x.submitAndStop(Due.code(0, session, 3), 31 + session, 9, 9), 3);
        }
    }

    private static void noQuorum() {
        due.sentence("As submit, with the same answers below 0, and 1");
        for (var state : States.all().entrySet()) {
            ElectedStore x = States.at(state.getValue());
            if (x.canGet(0) != 0) {
                String before = Due.seen(x);
                due.is("submitAndStop in state '" + state.getKey() + "'", x.submitAndStop(SET, Due.MAX, 9, 9), ElectedStore.NO_QUORUM);
                due.alike("questions after it", Due.seen(x), before);
            }
        }
    }

    private static void theLeaderGoesDown() {
        due.sentence("the leader writes the command into its own log only and goes down at once");
        for (var state : States.all().entrySet()) {
            ElectedStore x = States.at(state.getValue());
            ElectedStore y = States.at(state.getValue());
            int leader = x.leader();
            if (leader >= 0) {
                // Whatever becomes of the command, nobody sees it by this call: all is as if the leader had just stopped.
                int answer = x.submitAndStop(SET, Due.MAX, 9, 9);
                due.is("stop(leader)", y.stop(leader), 1);
                due.is("isUp(leader) in state '" + state.getKey() + "'", x.isUp(leader), 0);
                due.is("pending()", x.pending(), answer == 2 ? 1 : 0);
                due.alike("the rest", Due.seen(x).replace("pending 1", "pending 0"), Due.seen(y));
                due.is("answer", answer, y.leader() < 0 ? 2 : 3);
            }
        }
    }

    private static void thereIsASettling() {
        due.sentence("Then there is a settling.");
        // If the others go on without the leader, nothing is left of the command: it is as if the leader had just stopped.
        for (var state : States.all().entrySet()) {
            int leader = States.at(state.getValue()).leader();
            for (int which = 0; leader >= 0 && which < States.FUTURES; which++) {
                ElectedStore x = States.at(state.getValue());
                ElectedStore y = States.at(state.getValue());
                due.is("stop(leader)", y.stop(leader), 1);
                if (x.submitAndStop(SET, Due.MAX, 9, 9) == 3) {
                    due.alike("future " + which + " of state '" + state.getKey() + "'", States.future(x, which), States.future(y, which));
                }
            }
        }
        // The choice that the settling makes is a step: 1 was away, and may not lead at once.
        ElectedStore x = new ElectedStore();
        x.stop(1);
        due.is("submitAndStop", x.submitAndStop(SET, 1, 8, 0), 3);
        due.is("leader() of 2, 3, 4", x.leader(), 2);
        x.stop(2);
        due.is("leader() of 3, 4", x.leader(), ElectedStore.NO_QUORUM);
        x.start(1);
        due.is("leader() of 1, 3, 4", x.leader(), 3);
    }

    private static void twoOrThreeAtEveryNumberOfMembers() {
        due.sentence("Answers 2 if the command is still pending then, else 3.");
        for (int count = 1; count <= 5; count++) {
            for (int up = count / 2 + 1; up <= count; up++) {
                for (boolean down : new boolean[] {true, false}) {
                    ElectedStore x = new ElectedStore();
                    for (int node = count; node < 5; node++) {
                        x.member(node, false);
                    }
                    for (int node = up; node < count; node++) {
                        if (down) {
                            x.stop(node);
                        } else {
                            x.move(node, 2);
                        }
                    }
                    // Without the leader, one less are there: of 2 and 4 members, 1 and 2 are exactly half.
                    boolean goOn = up - 1 > count / 2.0;
                    String where = up + " of " + count;
                    due.is("submitAndStop by " + where, x.submitAndStop(SET, 1, 8, 0), goOn ? 3 : 2);
                    due.is("pending() of " + where, x.pending(), goOn ? 0 : 1);
                    due.is("leader() of " + where, x.leader(), goOn ? 1 : ElectedStore.NO_QUORUM);
                    due.is("isUp(0)", x.isUp(0), 0);
                    x.start(0);
                    due.is("pending() of " + where + " after start(0)", x.pending(), 0);
                    due.is("get(3) of " + where + " after start(0)", x.get(3), goOn ? 0 : 8);
                    due.is("leader() of " + where + " after start(0)", x.leader(), goOn ? 1 : 0);
                }
            }
        }
    }

    private static void everyLeaderHolds() {
        due.sentence("The command is pending then, and the node that was leader is its holder.");
        for (int leader = 0; leader < 5; leader++) {
            ElectedStore x = new ElectedStore();
            for (int node = 0; node < leader; node++) {
                x.member(node, false);
            }
            for (int node = 0; node < leader; node++) {
                x.member(node, true);
            }
            x.stop((leader + 1) % 5);
            x.stop((leader + 2) % 5);
            due.is("leader()", x.leader(), leader);
            due.is("submitAndStop", x.submitAndStop(SET, 1, 8, 0), 2);
            for (int node = 0; node < 5; node++) {
                boolean up = node == (leader + 3) % 5 || node == (leader + 4) % 5;
                due.is("isUp(" + node + ")", x.isUp(node), up ? 1 : 0);
            }
            x.start(leader);
            due.is("leader() with the holder back", x.leader(), leader);
            due.is("get(3)", x.get(3), 8);
        }
    }

    private static void pendingInEveryState() {
        due.sentence("1 if there is a pending command, else 0.");
        for (var state : States.all().entrySet()) {
            boolean isPending = state.getKey().startsWith("pending") && !state.getKey().contains("then");
            due.is("pending() in state '" + state.getKey() + "'", States.at(state.getValue()).pending(), isPending ? 1 : 0);
        }
    }

    private static void droppedAtOnce() {
        due.sentence("it is dropped for ever");
        ElectedStore x = new ElectedStore();
        due.is("submitAndStop", x.submitAndStop(SET, 1, 8, 0), 3);
        due.is("pending()", x.pending(), 0);
        due.is("isUp(0)", x.isUp(0), 0);
        due.is("isMember(0)", x.isMember(0), 1);
        due.is("leader()", x.leader(), 1);
        due.is("get(3)", x.get(3), 0);
        x.start(0);
        due.is("get(3): it is dropped for ever", x.get(3), 0);
        due.is("leader()", x.leader(), 1);
        for (int node = 0; node < 5; node++) {
            due.is("local(node, 3)", x.local(node, 3), 0);
            due.is("lastNumber(node, 2)", x.lastNumber(node, 2), 0);
        }
        due.is("its number is free still", x.submit(SET, 1, 9, 0), 0);
        due.is("get(3)", x.get(3), 9);
    }

    /** Nodes 0, 1, 2 of five are up; 0 leads, holds the command, and is down then. */
    private static ElectedStore held() {
        ElectedStore x = new ElectedStore();
        x.submit(Due.code(0, 0, 3), 1, 20, 0);
        x.stop(3);
        x.stop(4);
        due.is("submitAndStop", x.submitAndStop(SET, 7, 8, 0), 2);
        return x;
    }

    private static void stillPending() {
        due.sentence("(It is not done by this call.)");
        ElectedStore x = held();
        due.is("pending()", x.pending(), 1);
        due.is("leader()", x.leader(), ElectedStore.NO_QUORUM);
        due.is("isUp(0)", x.isUp(0), 0);
        due.is("canGet(3)", x.canGet(3), ElectedStore.NO_QUORUM);
        for (int node = 0; node < 5; node++) {
            due.is("local(node, 3): it is not done by this call", x.local(node, 3), 20);
            due.is("lastNumber(node, 2)", x.lastNumber(node, 2), 0);
        }
        due.is("submit", x.submit(SET, 8, 1, 1), ElectedStore.NO_QUORUM);
        due.is("submitAndStop", x.submitAndStop(SET, 8, 1, 1), ElectedStore.NO_QUORUM);
        due.is("member(0, false)", x.member(0, false), ElectedStore.NO_QUORUM);
        due.is("pending()", x.pending(), 1);
    }

    private static void theHolderComesBackFirst() {
        due.sentence("the holder becomes leader (a step), the pending command is done (a step), and is pending no more");
        ElectedStore x = held();
        due.is("start(0)", x.start(0), 1);
        due.is("pending()", x.pending(), 0);
        due.is("leader()", x.leader(), 0);
        due.is("get(3): it is done", x.get(3), 8);
        for (int node = 0; node < 5; node++) {
            boolean in = node < 3;
            due.is("local(node, 3)", x.local(node, 3), in ? 8 : 20);
            due.is("lastNumber(node, 2)", x.lastNumber(node, 2), in ? 7 : 0);
            due.is("answer(node, 2)", x.answer(node, 2), in ? 20 : 0);
        }
        due.is("the same number again", x.submit(SET, 7, 1, 1), 1);
        due.is("a lesser one", x.submit(SET, 6, 1, 1), ElectedStore.OLD);
        // It was a step, so 3 and 4 may not lead although no other step went by.
        x.stop(0);
        x.stop(1);
        x.start(3);
        due.is("leader() of 2, 3", x.leader(), ElectedStore.NO_QUORUM);
        x.start(1);
        due.is("leader() of 1, 2, 3", x.leader(), 1);
        ElectedStore y = new ElectedStore();
        y.stop(0);
        y.start(0);
        y.stop(0);
        y.stop(2);
        y.submitAndStop(SET, 1, 8, 0);
        due.is("pending(), held by 1", y.pending(), 1);
        y.start(1);
        due.is("leader() of 1, 3, 4", y.leader(), 1);
        y.stop(1);
        y.start(2);
        due.is("leader() of 2, 3, 4: 2 missed the command", y.leader(), 3);
    }

    private static void theOthersGoOnWithoutIt() {
        due.sentence("it is dropped for ever");
        ElectedStore x = held();
        x.start(4);
        due.is("pending()", x.pending(), 0);
        due.is("leader() of 1, 2, 4", x.leader(), 1);
        due.is("get(3)", x.get(3), 20);
        x.start(0);
        due.is("get(3): it is dropped for ever", x.get(3), 20);
        due.is("leader()", x.leader(), 1);
        due.is("its number is free still", x.submit(SET, 7, 8, 0), 0);
    }

    private static void theHolderIsInAnotherGroup() {
        due.sentence("and its holder is in the quorum");
        ElectedStore x = held();
        x.move(0, 1);
        x.start(0);
        due.is("pending(): 0 is alone in group 1", x.pending(), 1);
        x.move(1, 1);
        due.is("pending(): two of five", x.pending(), 1);
        x.move(2, 1);
        due.is("pending(): three of five with 0", x.pending(), 0);
        due.is("leader()", x.leader(), 0);
        due.is("get(3)", x.get(3), 8);

        x = held();
        x.move(0, 1);
        x.start(0);
        x.start(3);
        due.is("pending(): three of five without 0", x.pending(), 0);
        due.is("leader()", x.leader(), 1);
        due.is("get(3)", x.get(3), 20);
        x.move(0, 0);
        due.is("leader() after 0 came back", x.leader(), 1);
        due.is("get(3)", x.get(3), 20);
    }

    private static void aHolderWhoCannotHelpYet() {
        due.sentence("and its holder is in the quorum");
        ElectedStore x = held();
        x.stop(1);
        x.start(0);
        due.is("pending(): 0 and 2 are no quorum", x.pending(), 1);
        due.is("leader()", x.leader(), ElectedStore.NO_QUORUM);
        due.is("local(0, 3)", x.local(0, 3), 20);
        x.start(4);
        due.is("pending()", x.pending(), 0);
        due.is("leader() of 0, 2, 4", x.leader(), 0);
        due.is("local(4, 3)", x.local(4, 3), 8);
        due.is("local(1, 3)", x.local(1, 3), 20);

        // The least node in the quorum is not the one that leads if another holds the command.
        x = new ElectedStore();
        x.stop(0);
        x.start(0);
        x.stop(2);
        x.stop(3);
        due.is("leader()", x.leader(), 1);
        due.is("submitAndStop", x.submitAndStop(SET, 1, 8, 0), 2);
        x.start(1);
        due.is("leader() of 0, 1, 4", x.leader(), 1);
        due.is("get(3)", x.get(3), 8);
    }

    private static void everyKindIsDoneLater() {
        due.sentence("the pending command is done (a step)");
        for (int kind = 0; kind <= 2; kind++) {
            ElectedStore x = new ElectedStore();
            x.submit(Due.code(0, 0, 5), 1, 10, 0);
            x.stop(3);
            x.stop(4);
            due.is("submitAndStop", x.submitAndStop(Due.code(kind, 3, 5), 2, 10, -4), 2);
            x.start(0);
            due.is("get(5) by kind " + kind, x.get(5), kind == 0 ? 10 : kind == 1 ? 20 : -4);
            due.is("answer(1, 3)", x.answer(1, 3), 10);
            due.is("lastNumber(1, 3)", x.lastNumber(1, 3), 2);
        }
    }

    private static void theOnlyMemberHoldsIt() {
        due.sentence("and without it the others in the quorum are not more than half of the members");
        ElectedStore x = new ElectedStore();
        for (int node = 0; node < 4; node++) {
            x.member(node, false);
        }
        due.is("leader()", x.leader(), 4);
        due.is("submitAndStop", x.submitAndStop(SET, 1, 8, 0), 2);
        x.move(4, 2);
        due.is("pending()", x.pending(), 1);
        x.start(4);
        due.is("pending()", x.pending(), 0);
        due.is("leader()", x.leader(), 4);
        due.is("get(3)", x.get(3), 8);
        due.is("local(0, 3)", x.local(0, 3), 0);

        // Of two members neither is more than half, so both are needed.
        x.move(4, 0);
        x.member(3, true);
        due.is("submitAndStop", x.submitAndStop(SET, 2, 9, 0), 2);
        x.stop(3);
        x.start(4);
        due.is("pending()", x.pending(), 1);
        x.start(3);
        due.is("pending()", x.pending(), 0);
        due.is("leader()", x.leader(), 4);
        due.is("local(3, 3)", x.local(3, 3), 9);
    }

    private static void againAndAgain() {
        due.sentence("Answers 2 if the command is still pending then, else 3.");
        ElectedStore x = new ElectedStore();
        due.is("submitAndStop", x.submitAndStop(Due.code(1, 0, 0), 1, 1, 0), 3);
        due.is("leader()", x.leader(), 1);
        due.is("submitAndStop", x.submitAndStop(Due.code(1, 0, 0), 1, 2, 0), 3);
        due.is("leader()", x.leader(), 2);
        due.is("submitAndStop", x.submitAndStop(Due.code(1, 0, 0), 1, 4, 0), 2);
        due.is("leader()", x.leader(), ElectedStore.NO_QUORUM);
        x.start(2);
        due.is("get(0): the last one alone is done", x.get(0), 4);
        due.is("submitAndStop", x.submitAndStop(Due.code(1, 0, 0), 2, 8, 0), 2);
        x.start(2);
        due.is("get(0): and then the next", x.get(0), 12);
        due.is("pending()", x.pending(), 0);
    }

    private static void theHolderMissesTheChoice() {
        due.sentence("becomes leader (a step)");
        // 0 held a command that was dropped when 1 was chosen; it is not current, so it may not lead at once.
        ElectedStore x = new ElectedStore();
        due.is("submitAndStop", x.submitAndStop(SET, 1, 8, 0), 3);
        x.stop(2);
        x.stop(1);
        x.start(0);
        due.is("leader() of 0, 3, 4", x.leader(), 3);
        due.is("get(3)", x.get(3), 0);
    }
}
