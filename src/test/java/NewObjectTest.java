/** Promise 1: a new object, 'As said above': all that the terms say of how things are at first. */
public final class NewObjectTest {
    private static final Due due = new Due("NewObjectTest");

    public static void main(String[] args) {
        nodes();
        groups();
        keys();
        sessions();
        copies();
        leaderAndPending();
        faults();
        objectsDoNotShare();
        allAreCurrent();
        due.end();
    }

    private static void nodes() {
        due.sentence("At first all are up, in group 0, and members.");
        ElectedStore x = new ElectedStore();
        for (int node = 0; node < 5; node++) {
            due.is("isUp(" + node + ")", x.isUp(node), 1);
            due.is("isMember(" + node + ")", x.isMember(node), 1);
        }
        for (int node = 0; node < 5; node++) {
            due.is("stop(" + node + ") of a new object", new ElectedStore().stop(node), 1);
            due.is("start(" + node + ") of a new object", new ElectedStore().start(node), 0);
            due.is("member(" + node + ", true) of a new object", new ElectedStore().member(node, true), 0);
            due.is("member(" + node + ", false) of a new object", new ElectedStore().member(node, false), 1);
        }
        due.is("isUp(5): there are no more", x.isUp(5), ElectedStore.BAD);
    }

    private static void groups() {
        due.sentence("At first all are up, in group 0, and members.");
        for (int node = 0; node < 5; node++) {
            for (int group = 0; group < 3; group++) {
                due.is("move(" + node + ", " + group + ") of a new object", new ElectedStore().move(node, group), 0);
            }
        }
    }

    private static void keys() {
        due.sentence("KEYS 0 .. 5 with values (ints, 0 at first)");
        ElectedStore x = new ElectedStore();
        for (int key = 0; key < 6; key++) {
            due.is("get(" + key + ")", x.get(key), 0);
            due.is("canGet(" + key + ")", x.canGet(key), 0);
        }
        due.is("canGet(6): there are no more", x.canGet(6), ElectedStore.BAD);
    }

    private static void sessions() {
        due.sentence("each with a LAST NUMBER (0 at first) and an ANSWER (0 at first)");
        ElectedStore x = new ElectedStore();
        for (int session = 0; session < 4; session++) {
            due.is("lastNumber(0, " + session + ")", x.lastNumber(0, session), 0);
            due.is("answer(0, " + session + ")", x.answer(0, session), 0);
            due.is("the least number is new", x.submit(Due.code(0, session, 0), 1, 0, 0), 0);
        }
        due.is("lastNumber(0, 4): there are no more", x.lastNumber(0, 4), ElectedStore.BAD);
    }

    private static void copies() {
        due.sentence("Every node has a COPY of the state; at first what the state is at first.");
        ElectedStore x = new ElectedStore();
        for (int node = 0; node < 5; node++) {
            for (int key = 0; key < 6; key++) {
                due.is("local(" + node + ", " + key + ")", x.local(node, key), 0);
            }
            for (int session = 0; session < 4; session++) {
                due.is("lastNumber(" + node + ", " + session + ")", x.lastNumber(node, session), 0);
                due.is("answer(" + node + ", " + session + ")", x.answer(node, session), 0);
            }
            for (int other = 0; other < 5; other++) {
                due.is("same(" + node + ", " + other + ")", x.same(node, other), 1);
            }
        }
    }

    private static void leaderAndPending() {
        due.sentence("node 0 at first");
        due.is("leader()", new ElectedStore().leader(), 0);
        due.sentence("there is none at first");
        due.is("pending()", new ElectedStore().pending(), 0);
        ElectedStore x = new ElectedStore();
        for (int node = 0; node < 5; node++) {
            x.stop(node);
        }
        due.is("pending() with all down", x.pending(), 0);
    }

    private static void faults() {
        due.sentence("always 0");
        due.is("faults()", new ElectedStore().faults(), 0);
    }

    private static void objectsDoNotShare() {
        due.sentence("As said above.");
        String anew = Due.seen(new ElectedStore());
        ElectedStore x = new ElectedStore();
        ElectedStore old = new ElectedStore();
        x.submit(Due.code(0, 0, 0), 1, 7, 0);
        x.move(3, 1);
        x.stop(0);
        x.member(4, false);
        due.alike("an object made before", Due.seen(old), anew);
        due.alike("an object made after", Due.seen(new ElectedStore()), anew);
        due.is("move(3, 0) of an object made after", new ElectedStore().move(3, 0), 0);
        due.is("get(0)", x.get(0), 7);
    }

    private static void allAreCurrent() {
        due.sentence("A node is CURRENT or not; at first all are.");
        // The node leaves with the first call, before any settling, and comes back before any step.
        for (int node = 1; node <= 2; node++) {
            ElectedStore x = new ElectedStore();
            x.stop(node);
            x.stop(3 - node);
            x.stop(0);
            due.is("leader() of 3, 4", x.leader(), ElectedStore.NO_QUORUM);
            x.start(node);
            due.is("leader() with " + node, x.leader(), node);
        }
    }
}
