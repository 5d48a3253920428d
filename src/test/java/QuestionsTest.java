/** Promises 12 to 17: get, canGet, local, lastNumber, answer, same. */
public final class QuestionsTest {
    private static final Due due = new Due("QuestionsTest");

    public static void main(String[] args) {
        getAndCanGet();
        getWithoutAQuorum();
        local();
        lastNumberAndAnswer();
        same();
        sameLooksAtEverything();
        wrongInputs();
        questionsChangeNothing();
        due.end();
    }

    /** Every value, last number and answer is unlike every other one. */
    private static ElectedStore full() {
        ElectedStore x = new ElectedStore();
        for (int key = 0; key < 6; key++) {
            int session = key % 4;
            x.submit(Due.code(0, session, key), 1 + key, 200 + key, 0);
        }
        for (int session = 0; session < 4; session++) {
            x.submit(Due.code(0, session, session), 30 + session, 100 + session, 0);
        }
        return x;
    }

    private static int value(int key) {
        return key < 4 ? 100 + key : 200 + key;
    }

    private static void getAndCanGet() {
        ElectedStore x = full();
        for (int key = 0; key < 6; key++) {
            due.is("get(" + key + ")", x.get(key), value(key));
            due.is("canGet(" + key + ")", x.canGet(key), 0);
        }
        due.is("get(6)", x.get(6), 0);
        due.is("canGet(6)", x.canGet(6), ElectedStore.BAD);
        for (int key : Due.farOff()) {
            due.is("get of no key", x.get(key), 0);
            due.is("canGet of no key", x.canGet(key), ElectedStore.BAD);
        }
    }

    private static void getWithoutAQuorum() {
        ElectedStore x = full();
        x.stop(0);
        x.stop(1);
        x.stop(2);
        for (int key = 0; key < 6; key++) {
            due.is("get(" + key + ")", x.get(key), 0);
            due.is("canGet(" + key + ")", x.canGet(key), ElectedStore.NO_QUORUM);
            due.is("local(4, " + key + ") all the same", x.local(4, key), value(key));
        }
        due.is("BAD comes before NO_QUORUM", x.canGet(6), ElectedStore.BAD);
        due.is("BAD comes before NO_QUORUM", x.canGet(-1), ElectedStore.BAD);
        x.start(1);
        for (int key = 0; key < 6; key++) {
            due.is("get(" + key + ")", x.get(key), value(key));
            due.is("canGet(" + key + ")", x.canGet(key), 0);
        }
    }

    private static void local() {
        ElectedStore x = full();
        for (int node = 0; node < 5; node++) {
            for (int key = 0; key < 6; key++) {
                due.is("local(" + node + ", " + key + ")", x.local(node, key), value(key));
            }
        }
        x.stop(3);
        x.submit(Due.code(0, 0, 5), 40, 300, 0);
        due.is("local(3, 5): its own copy, not the state", x.local(3, 5), 205);
        due.is("local(4, 5)", x.local(4, 5), 300);
        due.is("get(5)", x.get(5), 300);
    }

    private static void lastNumberAndAnswer() {
        ElectedStore x = full();
        for (int node = 0; node < 5; node++) {
            for (int session = 0; session < 4; session++) {
                due.is("lastNumber", x.lastNumber(node, session), 30 + session);
                due.is("answer", x.answer(node, session), 200 + session);
            }
        }
        x.stop(3);
        x.submit(Due.code(0, 1, 5), 40, 300, 0);
        due.is("lastNumber(3, 1): its own copy, not the state", x.lastNumber(3, 1), 31);
        due.is("answer(3, 1): its own copy, not the state", x.answer(3, 1), 201);
        due.is("lastNumber(0, 1)", x.lastNumber(0, 1), 40);
        due.is("answer(0, 1)", x.answer(0, 1), 205);
    }

    private static void same() {
        ElectedStore x = full();
        x.stop(3);
        x.stop(4);
        x.submit(Due.code(1, 0, 0), 50, 1, 0);
        for (int node = 0; node < 5; node++) {
            for (int other = 0; other < 5; other++) {
                due.is("same(" + node + ", " + other + ")", x.same(node, other), node < 3 == other < 3 ? 1 : 0);
            }
        }
        x.start(3);
        due.is("same(0, 3)", x.same(0, 3), 1);
        due.is("same(3, 4)", x.same(3, 4), 0);
    }

    private static void sameLooksAtEverything() {
        for (int session = 0; session < 4; session++) {
            for (int key = 0; key < 6; key++) {
                ElectedStore x = full();
                x.stop(4);
                x.submit(Due.code(1, session, key), 50, 1, 0);
                due.is("same(0, 4)", x.same(0, 4), 0);
                due.is("same(4, 0)", x.same(4, 0), 0);
            }
        }
        // The values alone do not tell: commands that leave every value as it is make copies differ too.
        for (int session = 0; session < 4; session++) {
            ElectedStore x = full();
            x.stop(4);
            x.submit(Due.code(1, session, 2), 50, 0, 0);
            for (int key = 0; key < 6; key++) {
                due.is("local", x.local(4, key), x.local(0, key));
            }
            due.is("same(0, 4) with the same values", x.same(0, 4), 0);
        }
    }

    private static void wrongInputs() {
        ElectedStore x = full();
        due.is("local(5, 0)", x.local(5, 0), 0);
        due.is("local(0, 6)", x.local(0, 6), 0);
        due.is("lastNumber(5, 0)", x.lastNumber(5, 0), ElectedStore.BAD);
        due.is("lastNumber(0, 4)", x.lastNumber(0, 4), ElectedStore.BAD);
        due.is("answer(5, 0)", x.answer(5, 0), 0);
        due.is("answer(0, 4)", x.answer(0, 4), 0);
        due.is("same(5, 0)", x.same(5, 0), ElectedStore.BAD);
        due.is("same(0, 5)", x.same(0, 5), ElectedStore.BAD);
        due.is("same(5, 5)", x.same(5, 5), ElectedStore.BAD);
        for (int far : Due.farOff()) {
            for (int near = 0; near < 4; near++) {
                due.is("local of no node", x.local(far, near), 0);
                due.is("local of no key", x.local(near, far), 0);
                due.is("lastNumber of no node", x.lastNumber(far, near), ElectedStore.BAD);
                due.is("lastNumber of no session", x.lastNumber(near, far), ElectedStore.BAD);
                due.is("answer of no node", x.answer(far, near), 0);
                due.is("answer of no session", x.answer(near, far), 0);
                due.is("same of no node", x.same(far, near), ElectedStore.BAD);
                due.is("same with no node", x.same(near, far), ElectedStore.BAD);
            }
            due.is("same of no node with itself", x.same(far, far), ElectedStore.BAD);
        }
    }

    private static void questionsChangeNothing() {
        ElectedStore x = full();
        x.stop(3);
        x.stop(4);
        x.submitAndStop(Due.code(1, 0, 0), 60, 1, 0);
        String before = Due.seen(x);
        due.holds("asking twice tells the same", Due.seen(x).equals(before));
        x.start(0);
        due.is("get(0): the command was pending all the while", x.get(0), value(0) + 1);
    }
}
