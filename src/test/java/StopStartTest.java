/** Promises 2, 3 and 6: stop, start, isUp. Nodes that are not good are in GoodNodeTest. */
public final class StopStartTest {
    private static final Due due = new Due("StopStartTest");

    public static void main(String[] args) {
        stopAnswers();
        startAnswers();
        isUp();
        everySetOfNodes();
        stoppingSettles();
        startingSettles();
        wrongNodes();
        inAnyState();
        due.end();
    }

    private static void stopAnswers() {
        due.sentence("Else answers 1 if it was up, else 0.");
        for (int node = 0; node < 5; node++) {
            ElectedStore x = new ElectedStore();
            due.is("stop of one that is up", x.stop(node), 1);
            due.is("stop of one that is down", x.stop(node), 0);
            due.is("and once more", x.stop(node), 0);
            x.start(node);
            due.is("stop after start", x.stop(node), 1);
        }
    }

    private static void startAnswers() {
        due.sentence("Else answers 1 if it was down, else 0.");
        for (int node = 0; node < 5; node++) {
            ElectedStore x = new ElectedStore();
            due.is("start of one that is up", x.start(node), 0);
            x.stop(node);
            due.is("start of one that is down", x.start(node), 1);
            due.is("start of one that is up again", x.start(node), 0);
        }
    }

    private static void isUp() {
        due.sentence("1 if a node is up, else 0.");
        for (int node = 0; node < 5; node++) {
            ElectedStore x = new ElectedStore();
            x.stop(node);
            for (int other = 0; other < 5; other++) {
                due.is("isUp(" + other + ") after stop(" + node + ")", x.isUp(other), other == node ? 0 : 1);
            }
            x.move(node, 2);
            x.member(node, false);
            due.is("isUp(" + node + ") of one that is nowhere near", x.isUp(node), 0);
            x.start(node);
            due.is("isUp(" + node + "), no member and in another group", x.isUp(node), 1);
        }
        ElectedStore x = new ElectedStore();
        x.submitAndStop(0, 1, 1, 1);
        due.is("isUp(0) after submitAndStop", x.isUp(0), 0);
    }

    private static void everySetOfNodes() {
        due.sentence("A node goes down (if it is up); then there is a settling.");
        for (int set = 0; set < 32; set++) {
            ElectedStore x = new ElectedStore();
            for (int node = 0; node < 5; node++) {
                if ((set >> node & 1) == 0) {
                    due.is("stop(" + node + ")", x.stop(node), 1);
                }
            }
            for (int node = 0; node < 5; node++) {
                due.is("isUp(" + node + ") in " + set, x.isUp(node), set >> node & 1);
            }
            for (int node = 0; node < 5; node++) {
                due.is("start(" + node + ") in " + set, x.start(node), 1 - (set >> node & 1));
            }
            due.is("canGet(0) with all of them back", x.canGet(0), 0);
        }
    }

    private static void stoppingSettles() {
        due.sentence("A node goes down (if it is up); then there is a settling.");
        ElectedStore x = new ElectedStore();
        x.stop(4);
        due.is("leader() after another went", x.leader(), 0);
        x.stop(0);
        due.is("leader() after it went", x.leader(), 1);
        x.stop(1);
        due.is("leader() of two of five", x.leader(), ElectedStore.NO_QUORUM);
        due.is("canGet(0)", x.canGet(0), ElectedStore.NO_QUORUM);
    }

    private static void startingSettles() {
        due.sentence("A node comes up (if it is down); then there is a settling.");
        ElectedStore x = new ElectedStore();
        x.stop(3);
        x.submit(Due.code(0, 2, 5), 9, 77, 0);
        due.is("local(3, 5) while down", x.local(3, 5), 0);
        x.start(3);
        due.is("local(3, 5) after start", x.local(3, 5), 77);
        due.is("lastNumber(3, 2) after start", x.lastNumber(3, 2), 9);
        x.stop(2);
        x.stop(3);
        x.stop(4);
        due.is("leader()", x.leader(), ElectedStore.NO_QUORUM);
        x.start(3);
        due.is("leader() with three of five again", x.leader(), 0);
    }

    private static void wrongNodes() {
        due.sentence("node is not good: BAD.");
        for (int node : Due.outside(5)) {
            ElectedStore x = new ElectedStore();
            x.stop(2);
            due.is("stop(" + node + ")", x.stop(node), ElectedStore.BAD);
            due.is("start(" + node + ")", x.start(node), ElectedStore.BAD);
            due.is("isUp(" + node + ")", x.isUp(node), ElectedStore.BAD);
            for (int good = 0; good < 5; good++) {
                due.is("isUp(" + good + ") after them", x.isUp(good), good == 2 ? 0 : 1);
            }
        }
    }

    private static void inAnyState() {
        // No state refuses a good node: neither a missing quorum nor being no member does.
        due.sentence("node is not good: BAD. Else answers 1 if it was up, else 0.");
        for (var state : States.all().entrySet()) {
            for (int node = 0; node < 5; node++) {
                ElectedStore x = States.at(state.getValue());
                int up = x.isUp(node);
                due.is("stop(" + node + ") in state '" + state.getKey() + "'", x.stop(node), up);
                due.is("isUp after it", x.isUp(node), 0);
                x = States.at(state.getValue());
                due.is("start(" + node + ") in state '" + state.getKey() + "'", x.start(node), 1 - up);
                due.is("isUp after it", x.isUp(node), 1);
            }
        }
    }
}
