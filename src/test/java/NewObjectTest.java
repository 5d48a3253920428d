/** Promise 1: a new object. */
public final class NewObjectTest {
    private static final Due due = new Due("NewObjectTest");

    public static void main(String[] args) {
        allIsAsAtFirst();
        objectsDoNotShare();
        allAreInGroupZero();
        allAreCurrent();
        due.end();
    }

    private static void allIsAsAtFirst() {
        ElectedStore x = new ElectedStore();
        due.is("leader()", x.leader(), 0);
        due.is("pending()", x.pending(), 0);
        due.is("faults()", x.faults(), 0);
        for (int node = 0; node < 5; node++) {
            due.is("isUp", x.isUp(node), 1);
            due.is("isMember", x.isMember(node), 1);
            for (int key = 0; key < 6; key++) {
                due.is("local", x.local(node, key), 0);
            }
            for (int session = 0; session < 4; session++) {
                due.is("lastNumber", x.lastNumber(node, session), 0);
                due.is("answer", x.answer(node, session), 0);
            }
            for (int other = 0; other < 5; other++) {
                due.is("same", x.same(node, other), 1);
            }
        }
        for (int key = 0; key < 6; key++) {
            due.is("get", x.get(key), 0);
            due.is("canGet", x.canGet(key), 0);
        }
    }

    private static void objectsDoNotShare() {
        ElectedStore x = new ElectedStore();
        x.submit(Due.code(0, 0, 0), 1, 7, 0);
        x.stop(0);
        x.member(4, false);
        ElectedStore y = new ElectedStore();
        due.holds("a later object is as new", Due.seen(y).equals(Due.seen(new ElectedStore())));
        due.is("get(0) of the other", y.get(0), 0);
        due.is("isUp(0) of the other", y.isUp(0), 1);
        due.is("get(0)", x.get(0), 7);
    }

    private static void allAreInGroupZero() {
        for (int node = 0; node < 5; node++) {
            ElectedStore x = new ElectedStore();
            due.is("move(node, 2)", x.move(node, 2), 0);
        }
    }

    private static void allAreCurrent() {
        // The node leaves with the first call, before any settling, and comes back before any step.
        for (int node = 1; node <= 2; node++) {
            ElectedStore x = new ElectedStore();
            x.stop(node);
            x.stop(3 - node);
            x.stop(0);
            due.is("leader() of 3, 4", x.leader(), ElectedStore.NO_QUORUM);
            x.start(node);
            due.is("leader() with the node", x.leader(), node);
        }
    }
}
