/** Promise 9: submit. How a command is done is in CommandTest, pairs of refusals are in OrderTest. */
public final class SubmitTest {
    private static final int MIN = Due.MIN;
    private static final int MAX = Due.MAX;
    private static final Due due = new Due("SubmitTest");

    public static void main(String[] args) {
        itIsDone();
        codesAtTheEdges();
        wrongCodes();
        wrongNumbers();
        noQuorum();
        oldNumbers();
        theLastNumber();
        newNumbers();
        numberOne();
        theGreatestNumber();
        theNumberIsTheStates();
        theQuorumAloneIsBroughtUp();
        due.end();
    }

    private static void itIsDone() {
        due.sentence("Does a command.");
        for (var state : States.all().entrySet()) {
            ElectedStore x = States.at(state.getValue());
            int leader = x.leader();
            if (leader >= 0) {
                int before = x.get(4);
                due.is("submit in state '" + state.getKey() + "'", x.submit(Due.code(1, 2, 4), MAX, 3, 0), 0);
                due.is("get(4)", x.get(4), before + 3);
                due.is("lastNumber(leader, 2)", x.lastNumber(leader, 2), MAX);
                due.is("answer(leader, 2)", x.answer(leader, 2), before);
                due.is("leader(): the same still", x.leader(), leader);
                due.is("pending(): it is done at once", x.pending(), 0);
            }
        }
    }

    private static void codesAtTheEdges() {
        due.sentence("code is not 0 .. 71, or number is below 1: BAD");
        ElectedStore x = new ElectedStore();
        due.is("submit(0, 1, ..)", x.submit(0, 1, 8, 0), 0);
        due.is("get(0)", x.get(0), 8);
        due.is("submit(71, 1, ..)", x.submit(71, 1, 0, 9), 0);
        due.is("get(5)", x.get(5), 9);
        due.is("lastNumber(0, 3)", x.lastNumber(0, 3), 1);
    }

    private static void wrongCodes() {
        due.sentence("code is not 0 .. 71, or number is below 1: BAD");
        for (int code : Due.outside(72)) {
            for (int number : new int[] {1, 2, MAX, 0}) {
                ElectedStore x = States.at(States::fill);
                String before = Due.seen(x);
                due.is("submit(" + code + ", " + number + ", ..)", x.submit(code, number, 3, 4), ElectedStore.BAD);
                due.alike("questions after it", Due.seen(x), before);
            }
        }
    }

    private static void wrongNumbers() {
        due.sentence("code is not 0 .. 71, or number is below 1: BAD");
        for (int number : new int[] {0, -1, -2, -255, -256, -65536, MIN + 1, MIN}) {
            for (int code = 0; code < 72; code++) {
                ElectedStore x = new ElectedStore();
                String before = Due.seen(x);
                due.is("submit(" + code + ", " + number + ", ..)", x.submit(code, number, 3, 4), ElectedStore.BAD);
                due.alike("questions after it", Due.seen(x), before);
            }
        }
    }

    private static void noQuorum() {
        due.sentence("there is no quorum: NO_QUORUM");
        for (var state : States.all().entrySet()) {
            ElectedStore x = States.at(state.getValue());
            boolean quorum = x.canGet(0) == 0;
            due.is("submit in state '" + state.getKey() + "'", x.submit(Due.code(2, 2, 2), MAX, 0, 0),
                    quorum ? 0 : ElectedStore.NO_QUORUM);
        }
    }

    private static void oldNumbers() {
        due.sentence("the number is less than the last number of the session: OLD.");
        ElectedStore x = new ElectedStore();
        int add = Due.code(1, 0, 0);
        x.submit(add, 5, 1, 0);
        String before = Due.seen(x);
        for (int number = 4; number >= 1; number--) {
            due.is("submit with " + number + " after 5", x.submit(add, number, 1, 0), ElectedStore.OLD);
            due.is("the same with another command", x.submit(Due.code(0, 0, 3), number, 9, 9), ElectedStore.OLD);
        }
        due.alike("questions after them", Due.seen(x), before);
        // Numbers that were passed over are old too, though they never came.
        x.submit(add, 100, 1, 0);
        due.is("submit with 99 after 100", x.submit(add, 99, 1, 0), ElectedStore.OLD);
        due.is("submit with 6 after 100", x.submit(add, 6, 1, 0), ElectedStore.OLD);
        due.is("get(0)", x.get(0), 2);
        due.is("another session has its own last number", x.submit(Due.code(1, 1, 0), 1, 1, 0), 0);
    }

    private static void theLastNumber() {
        due.sentence("If it is the last number of the session, nothing happens, and the answer is 1.");
        for (int session = 0; session < 4; session++) {
            ElectedStore x = States.at(States::fill);
            String before = Due.seen(x);
            due.is("the same number", x.submit(Due.code(1, session, 0), 30 + session, 1, 0), 1);
            due.is("and again", x.submit(Due.code(1, session, 0), 30 + session, 1, 0), 1);
            due.is("with another key and kind", x.submit(Due.code(2, session, 5), 30 + session, 205, 0), 1);
            due.alike("questions after them", Due.seen(x), before);
        }
    }

    private static void newNumbers() {
        due.sentence("Else the command is done (a step), there is a settling, and the answer is 0.");
        ElectedStore x = new ElectedStore();
        int add = Due.code(1, 0, 0);
        int done = 0;
        for (int number : new int[] {1, 2, 3, 10, 11, 1000, 1 << 20, MAX - 1, MAX}) {
            due.is("submit with " + number, x.submit(add, number, 1, 0), 0);
            done++;
            due.is("get(0)", x.get(0), done);
            due.is("lastNumber(1, 0)", x.lastNumber(1, 0), number);
        }
    }

    private static void numberOne() {
        due.sentence("If it is the last number of the session, nothing happens, and the answer is 1.");
        ElectedStore x = new ElectedStore();
        int add = Due.code(1, 2, 0);
        due.is("1 in a new session", x.submit(add, 1, 1, 0), 0);
        due.is("1 again", x.submit(add, 1, 1, 0), 1);
        due.is("submitAndStop with 1", x.submitAndStop(add, 1, 1, 0), 1);
        due.is("get(0)", x.get(0), 1);
        due.sentence("the number is less than the last number of the session: OLD.");
        due.is("2", x.submit(add, 2, 1, 0), 0);
        due.is("1 after 2", x.submit(add, 1, 1, 0), ElectedStore.OLD);
        due.is("submitAndStop with 1 after 2", x.submitAndStop(add, 1, 1, 0), ElectedStore.OLD);
        due.is("get(0)", x.get(0), 2);
        due.is("leader()", x.leader(), 0);
    }

    private static void theGreatestNumber() {
        due.sentence("If it is the last number of the session, nothing happens, and the answer is 1.");
        ElectedStore x = new ElectedStore();
        int add = Due.code(1, 3, 0);
        due.is("MAX in a new session", x.submit(add, MAX, 1, 0), 0);
        due.is("MAX again", x.submit(add, MAX, 1, 0), 1);
        due.is("submitAndStop with MAX", x.submitAndStop(add, MAX, 1, 0), 1);
        due.sentence("the number is less than the last number of the session: OLD.");
        due.is("MAX - 1", x.submit(add, MAX - 1, 1, 0), ElectedStore.OLD);
        due.is("1", x.submit(add, 1, 1, 0), ElectedStore.OLD);
        due.is("submitAndStop with MAX - 1", x.submitAndStop(add, MAX - 1, 1, 0), ElectedStore.OLD);
        due.is("MIN is no number at all", x.submit(add, MIN, 1, 0), ElectedStore.BAD);
        due.is("get(0)", x.get(0), 1);
        due.is("lastNumber(4, 3)", x.lastNumber(4, 3), MAX);
        due.is("MAX - 1 in another session", x.submit(Due.code(1, 0, 0), MAX - 1, 1, 0), 0);
        due.is("MAX after it", x.submit(Due.code(1, 0, 0), MAX, 1, 0), 0);
        due.is("get(0)", x.get(0), 3);
    }

    private static void theNumberIsTheStates() {
        due.sentence("the number is less than the last number of the session: OLD.");
        // Whoever leads, and whatever copies were behind, the state's last number counts.
        ElectedStore x = new ElectedStore();
        x.stop(3);
        x.stop(4);
        x.submit(Due.code(1, 1, 0), 9, 1, 0);
        x.stop(0);
        x.stop(1);
        x.start(3);
        x.start(4);
        due.is("leader() of 2, 3, 4", x.leader(), 2);
        due.is("9 again", x.submit(Due.code(1, 1, 0), 9, 1, 0), 1);
        due.is("8", x.submit(Due.code(1, 1, 0), 8, 1, 0), ElectedStore.OLD);
        due.is("10", x.submit(Due.code(1, 1, 0), 10, 1, 0), 0);
        due.is("get(0)", x.get(0), 2);
    }

    private static void theQuorumAloneIsBroughtUp() {
        due.sentence("Else the command is done (a step), there is a settling, and the answer is 0.");
        ElectedStore x = new ElectedStore();
        x.stop(1);
        x.member(2, false);
        x.submit(Due.code(0, 0, 4), 1, 6, 0);
        for (int node = 0; node < 5; node++) {
            boolean in = node != 1 && node != 2;
            due.is("local(" + node + ", 4)", x.local(node, 4), in ? 6 : 0);
            due.is("lastNumber(" + node + ", 0)", x.lastNumber(node, 0), in ? 1 : 0);
        }
    }
}
