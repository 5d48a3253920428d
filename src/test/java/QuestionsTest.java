/** Promises 12 to 17: get, canGet, local, lastNumber, answer, same. Nodes that are not good are in GoodNodeTest too. */
public final class QuestionsTest {
    private static final Due due = new Due("QuestionsTest");

    public static void main(String[] args) {
        get();
        getOfNoKey();
        getWithoutAQuorum();
        canGet();
        canGetOfNoKey();
        canGetTellsWhetherGetDoes();
        local();
        lastNumber();
        answer();
        same();
        sameLooksAtEverything();
        sameInEveryState();
        sameForWhatCameToTheSameValues();
        localOfNoNodeOrKey();
        lastNumberOfNoNodeOrSession();
        answerOfNoNodeOrSession();
        sameOfNoNode();
        questionsChangeNothing();
        due.end();
    }

    private static ElectedStore full() {
        return States.at(States::fill);
    }

    private static ElectedStore fullWithoutAQuorum() {
        ElectedStore x = full();
        x.stop(0);
        x.stop(1);
        x.stop(2);
        return x;
    }

    private static int value(int key) {
        return key < 4 ? 100 + key : 200 + key;
    }

    private static void get() {
        due.sentence("Only if there is a quorum: the value of a key in the state.");
        ElectedStore x = full();
        for (int key = 0; key < 6; key++) {
            due.is("get(" + key + ")", x.get(key), value(key));
        }
        // The state is what the quorum has, not what any one node had.
        x.stop(4);
        x.submit(Due.code(1, 0, 5), 50, 1, 0);
        due.is("get(5)", x.get(5), 206);
        due.is("local(4, 5)", x.local(4, 5), 205);
    }

    private static void getOfNoKey() {
        due.sentence("key is not 0 .. 5, or there is no quorum: 0.");
        for (int key : Due.outside(6)) {
            due.is("get(" + key + ")", full().get(key), 0);
            due.is("get(" + key + ") without a quorum", fullWithoutAQuorum().get(key), 0);
        }
    }

    private static void getWithoutAQuorum() {
        due.sentence("key is not 0 .. 5, or there is no quorum: 0.");
        ElectedStore x = fullWithoutAQuorum();
        for (int key = 0; key < 6; key++) {
            due.is("get(" + key + ")", x.get(key), 0);
            due.is("local(4, " + key + ") all the same", x.local(4, key), value(key));
        }
        x.start(1);
        for (int key = 0; key < 6; key++) {
            due.is("get(" + key + ") with a quorum again", x.get(key), value(key));
        }
    }

    private static void canGet() {
        due.sentence("there is no quorum: NO_QUORUM. Else 0.");
        ElectedStore x = full();
        ElectedStore y = fullWithoutAQuorum();
        for (int key = 0; key < 6; key++) {
            due.is("canGet(" + key + ")", x.canGet(key), 0);
            due.is("canGet(" + key + ") of a key that is 0", new ElectedStore().canGet(key), 0);
            due.is("canGet(" + key + ") without a quorum", y.canGet(key), ElectedStore.NO_QUORUM);
        }
        y.start(0);
        due.is("canGet(0) with a quorum again", y.canGet(0), 0);
    }

    private static void canGetOfNoKey() {
        due.sentence("key is not 0 .. 5: BAD");
        for (int key : Due.outside(6)) {
            due.is("canGet(" + key + ")", full().canGet(key), ElectedStore.BAD);
            due.is("canGet(" + key + ") without a quorum", fullWithoutAQuorum().canGet(key), ElectedStore.BAD);
        }
    }

    private static void canGetTellsWhetherGetDoes() {
        due.sentence("Whether get tells a value of a key now.");
        for (var state : States.all().entrySet()) {
            ElectedStore x = States.at(state.getValue());
            int leader = x.leader();
            for (int key = 0; key < 6; key++) {
                String where = "(" + key + ") in state '" + state.getKey() + "'";
                due.is("canGet" + where, x.canGet(key), leader < 0 ? ElectedStore.NO_QUORUM : 0);
                due.is("get" + where, x.get(key), leader < 0 ? 0 : x.local(leader, key));
            }
        }
    }

    private static void local() {
        due.sentence("The value of a key in the copy of a node.");
        ElectedStore x = full();
        for (int node = 0; node < 5; node++) {
            for (int key = 0; key < 6; key++) {
                due.is("local(" + node + ", " + key + ")", x.local(node, key), value(key));
            }
        }
        x.stop(3);
        x.submit(Due.code(0, 0, 5), 40, 300, 0);
        due.is("local(3, 5): its own copy, not the state", x.local(3, 5), 205);
        due.is("local(4, 5)", x.local(4, 5), 300);
        due.is("get(5)", x.get(5), 300);
    }

    private static void lastNumber() {
        due.sentence("The last number of a session in the copy of a node.");
        ElectedStore x = full();
        for (int node = 0; node < 5; node++) {
            for (int session = 0; session < 4; session++) {
                due.is("lastNumber(" + node + ", " + session + ")", x.lastNumber(node, session), 30 + session);
            }
        }
        x.stop(3);
        x.submit(Due.code(0, 1, 5), 40, 300, 0);
        due.is("lastNumber(3, 1): its own copy, not the state", x.lastNumber(3, 1), 31);
        due.is("lastNumber(0, 1)", x.lastNumber(0, 1), 40);
    }

    private static void answer() {
        due.sentence("The answer of a session in the copy of a node");
        ElectedStore x = full();
        for (int node = 0; node < 5; node++) {
            for (int session = 0; session < 4; session++) {
                due.is("answer(" + node + ", " + session + ")", x.answer(node, session), 200 + session);
            }
        }
        x.stop(3);
        x.submit(Due.code(0, 1, 5), 40, 300, 0);
        due.is("answer(3, 1): its own copy, not the state", x.answer(3, 1), 201);
        due.is("answer(0, 1)", x.answer(0, 1), 205);
    }

    private static void same() {
        due.sentence("1 if the copies of two nodes are the same (all values, last numbers and answers), else 0.");
        ElectedStore x = full();
        x.stop(3);
        x.stop(4);
        x.submit(Due.code(1, 0, 0), 50, 1, 0);
        for (int node = 0; node < 5; node++) {
            for (int other = 0; other < 5; other++) {
                due.is("same(" + node + ", " + other + ")", x.same(node, other), node < 3 == other < 3 ? 1 : 0);
            }
        }
        x.start(3);
        due.is("same(0, 3)", x.same(0, 3), 1);
        due.is("same(3, 4)", x.same(3, 4), 0);
    }

    private static void sameLooksAtEverything() {
        due.sentence("1 if the copies of two nodes are the same (all values, last numbers and answers), else 0.");
        for (int session = 0; session < 4; session++) {
            for (int key = 0; key < 6; key++) {
                ElectedStore x = full();
                x.stop(4);
                x.submit(Due.code(1, session, key), 50, 1, 0);
                due.is("same(0, 4)", x.same(0, 4), 0);
                due.is("same(4, 0)", x.same(4, 0), 0);
            }
        }
        // The values alone do not tell: commands that leave every value as it is make copies differ too.
        for (int session = 0; session < 4; session++) {
            ElectedStore x = full();
            x.stop(4);
            x.submit(Due.code(1, session, 2), 50, 0, 0);
            for (int key = 0; key < 6; key++) {
                due.is("local", x.local(4, key), x.local(0, key));
            }
            due.is("same(0, 4) with the same values", x.same(0, 4), 0);
        }
    }

    private static void sameInEveryState() {
        due.sentence("1 if the copies of two nodes are the same (all values, last numbers and answers), else 0.");
        for (var state : States.all().entrySet()) {
            String[] copies = new String[5];
            ElectedStore x = States.at(state.getValue());
            for (int node = 0; node < 5; node++) {
                copies[node] = Due.copy(x, node);
            }
            for (int node = 0; node < 5; node++) {
                for (int other = 0; other < 5; other++) {
                    int want = copies[node].equals(copies[other]) ? 1 : 0;
                    due.is("same(" + node + ", " + other + ") in state '" + state.getKey() + "'", x.same(node, other), want);
                }
            }
        }
    }

    private static void sameForWhatCameToTheSameValues() {
        due.sentence("1 if the copies of two nodes are the same (all values, last numbers and answers), else 0.");
        // Whatever way the copies went, they are the same only if no command lies between them: a last number grows by each
        // command, and never shrinks. So no run of calls shows copies that differ in a value or an answer alone.
        ElectedStore x = new ElectedStore();
        x.stop(4);
        x.submit(Due.code(1, 0, 0), 1, 5, 0);
        x.submit(Due.code(1, 0, 0), 2, -5, 0);
        due.is("local(0, 0), there and back", x.local(0, 0), x.local(4, 0));
        due.is("same(0, 4)", x.same(0, 4), 0);
        x.start(4);
        due.is("same(0, 4) after it caught up", x.same(0, 4), 1);
        x.stop(4);
        due.is("same(0, 4) while nothing is done", x.same(0, 4), 1);
        x.stop(0);
        x.member(2, false);
        due.is("same(0, 4) after steps that are no commands", x.same(0, 4), 1);
        due.is("same(1, 4)", x.same(1, 4), 1);
    }

    private static void localOfNoNodeOrKey() {
        due.sentence("node is not good, or key is not 0 .. 5: 0.");
        ElectedStore x = full();
        for (int key : Due.outside(6)) {
            for (int node = 0; node < 5; node++) {
                due.is("local(" + node + ", " + key + ")", x.local(node, key), 0);
            }
        }
        x = full();
        for (int node : Due.outside(5)) {
            for (int key = 0; key < 6; key++) {
                due.is("local(" + node + ", " + key + ")", x.local(node, key), 0);
            }
            due.is("local(" + node + ", 6)", x.local(node, 6), 0);
        }
    }

    private static void lastNumberOfNoNodeOrSession() {
        due.sentence("node is not good, or session is not 0 .. 3: BAD.");
        ElectedStore x = full();
        for (int session : Due.outside(4)) {
            for (int node = 0; node < 5; node++) {
                due.is("lastNumber(" + node + ", " + session + ")", x.lastNumber(node, session), ElectedStore.BAD);
            }
        }
        x = full();
        for (int node : Due.outside(5)) {
            for (int session = 0; session < 4; session++) {
                due.is("lastNumber(" + node + ", " + session + ")", x.lastNumber(node, session), ElectedStore.BAD);
            }
            due.is("lastNumber(" + node + ", 4)", x.lastNumber(node, 4), ElectedStore.BAD);
        }
    }

    private static void answerOfNoNodeOrSession() {
        due.sentence("0 if node is not good, or session is not 0 .. 3.");
        ElectedStore x = full();
        for (int session : Due.outside(4)) {
            for (int node = 0; node < 5; node++) {
                due.is("answer(" + node + ", " + session + ")", x.answer(node, session), 0);
            }
        }
        x = full();
        for (int node : Due.outside(5)) {
            for (int session = 0; session < 4; session++) {
                due.is("answer(" + node + ", " + session + ")", x.answer(node, session), 0);
            }
            due.is("answer(" + node + ", 4)", x.answer(node, 4), 0);
        }
    }

    private static void sameOfNoNode() {
        due.sentence("node or other is not good: BAD.");
        ElectedStore x = full();
        for (int bad : Due.outside(5)) {
            for (int good = 0; good < 5; good++) {
                due.is("same(" + bad + ", " + good + ")", x.same(bad, good), ElectedStore.BAD);
                due.is("same(" + good + ", " + bad + ")", x.same(good, bad), ElectedStore.BAD);
            }
            due.is("same(" + bad + ", " + bad + ")", x.same(bad, bad), ElectedStore.BAD);
        }
    }

    private static void questionsChangeNothing() {
        due.sentence("Questions change nothing.");
        ElectedStore x = full();
        x.stop(3);
        x.stop(4);
        x.submitAndStop(Due.code(1, 0, 0), 60, 1, 0);
        String before = Due.seen(x);
        due.holds("asking twice tells the same", Due.seen(x).equals(before));
        x.start(0);
        due.is("get(0): the command was pending all the while", x.get(0), value(0) + 1);
    }
}
