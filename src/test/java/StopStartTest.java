/** Promises 2, 3 and 6: stop, start, isUp. */
public final class StopStartTest {
    private static final Due due = new Due("StopStartTest");

    public static void main(String[] args) {
        answersOfEveryNode();
        wrongNodes();
        stoppingSettles();
        startingSettles();
        repeatedCallsChangeNothing();
        due.end();
    }

    private static void answersOfEveryNode() {
        for (int node = 0; node < 5; node++) {
            ElectedStore x = new ElectedStore();
            due.is("start of one that is up", x.start(node), 0);
            due.is("stop of one that is up", x.stop(node), 1);
            for (int other = 0; other < 5; other++) {
                due.is("isUp after stop", x.isUp(other), other == node ? 0 : 1);
            }
            due.is("stop of one that is down", x.stop(node), 0);
            due.is("isUp", x.isUp(node), 0);
            due.is("start of one that is down", x.start(node), 1);
            due.is("isUp after start", x.isUp(node), 1);
            due.is("start again", x.start(node), 0);
        }
    }

    private static void wrongNodes() {
        ElectedStore x = new ElectedStore();
        x.stop(2);
        String before = Due.seen(x);
        due.is("stop(5)", x.stop(5), ElectedStore.BAD);
        due.is("start(5)", x.start(5), ElectedStore.BAD);
        due.is("isUp(5)", x.isUp(5), ElectedStore.BAD);
        for (int node : Due.farOff()) {
            due.is("stop of no node", x.stop(node), ElectedStore.BAD);
            due.is("start of no node", x.start(node), ElectedStore.BAD);
            due.is("isUp of no node", x.isUp(node), ElectedStore.BAD);
        }
        due.holds("refused calls change nothing", Due.seen(x).equals(before));
    }

    private static void stoppingSettles() {
        ElectedStore x = new ElectedStore();
        x.stop(4);
        due.is("leader() after another went", x.leader(), 0);
        x.stop(0);
        due.is("leader() after it went", x.leader(), 1);
        x.stop(1);
        due.is("leader() of two of five", x.leader(), ElectedStore.NO_QUORUM);
        due.is("canGet(0)", x.canGet(0), ElectedStore.NO_QUORUM);
    }

    private static void startingSettles() {
        ElectedStore x = new ElectedStore();
        x.stop(3);
        x.submit(Due.code(0, 2, 5), 9, 77, 0);
        due.is("local(3, 5) while down", x.local(3, 5), 0);
        x.start(3);
        due.is("local(3, 5) after start", x.local(3, 5), 77);
        due.is("lastNumber(3, 2) after start", x.lastNumber(3, 2), 9);
        x.stop(2);
        x.stop(3);
        x.stop(4);
        due.is("leader()", x.leader(), ElectedStore.NO_QUORUM);
        x.start(3);
        due.is("leader() with three of five again", x.leader(), 0);
    }

    private static void repeatedCallsChangeNothing() {
        ElectedStore x = new ElectedStore();
        x.submit(Due.code(0, 0, 0), 1, 4, 0);
        x.stop(1);
        x.submit(Due.code(1, 1, 0), 1, 4, 0);
        String before = Due.seen(x);
        x.stop(1);
        x.start(0);
        due.holds("nothing is changed", Due.seen(x).equals(before));
    }
}
