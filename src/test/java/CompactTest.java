/** Promises 18 and 19: compact, faults. */
public final class CompactTest {
    private static final Due due = new Due("CompactTest");

    public static void main(String[] args) {
        compactChangesNoAnswer();
        compactKeepsThePendingCommand();
        compactKeepsWhatANodeMustCatchUpWith();
        faultsAreNone();
        due.end();
    }

    /** The same runs twice, once with compact after every call; no object is called more than 512 times. */
    private static void compactChangesNoAnswer() {
        for (int run = 1; run <= 50; run++) {
            ElectedStore x = new ElectedStore();
            ElectedStore y = new ElectedStore();
            long dice = run;
            for (int call = 0; call < 130; call++) {
                dice = dice * 6364136223846793005L + 1442695040888963407L;
                int pick = (int) (dice >>> 33);
                int one = call(x, pick);
                int two = call(y, pick);
                y.compact();
                due.is("run " + run + ", call " + call, two, one);
                due.is("faults()", y.faults(), 0);
            }
            due.holds("all questions after run " + run, Due.seen(x).equals(Due.seen(y)));
        }
    }

    private static int call(ElectedStore x, int pick) {
        int node = pick / 8 % 5;
        switch (pick % 8) {
            case 0: return x.stop(node);
            case 1: case 2: return x.start(node);
            case 3: return x.move(node, pick / 40 % 2);
            case 4: return x.member(node, pick / 40 % 3 != 0);
            case 5: return x.submitAndStop(pick / 40 % 72, 1 + pick / 2880 % 50, pick % 7, 3);
            default: return x.submit(pick / 40 % 72, 1 + pick / 2880 % 50, pick % 7, 3);
        }
    }

    private static void compactKeepsThePendingCommand() {
        ElectedStore x = new ElectedStore();
        x.stop(3);
        x.stop(4);
        x.submitAndStop(Due.code(0, 0, 0), 1, 8, 0);
        x.compact();
        due.is("pending()", x.pending(), 1);
        x.start(0);
        due.is("get(0)", x.get(0), 8);
    }

    private static void compactKeepsWhatANodeMustCatchUpWith() {
        ElectedStore x = new ElectedStore();
        x.stop(4);
        for (int number = 1; number <= 20; number++) {
            x.submit(Due.code(1, 0, 0), number, number, 0);
            x.compact();
        }
        x.start(4);
        due.is("local(4, 0)", x.local(4, 0), 210);
        due.is("same(0, 4)", x.same(0, 4), 1);
        due.is("faults()", x.faults(), 0);
    }

    private static void faultsAreNone() {
        ElectedStore x = new ElectedStore();
        due.is("faults()", x.faults(), 0);
        x.submitAndStop(0, 1, 2, 3);
        due.is("faults() after a dropped command", x.faults(), 0);
        x.submit(0, 1, 4, 3);
        x.stop(1);
        x.submitAndStop(0, 2, 5, 3);
        due.is("faults() with a pending command", x.faults(), 0);
        x.start(0);
        x.start(1);
        x.start(2);
        due.is("faults() after all came back", x.faults(), 0);
        x.stop(-1);
        due.is("faults() after a wrong call", x.faults(), 0);
    }
}
