/**
 * Counts the answers of one test that are not the ones that are due, and ends the test with exit code 1 if there are any.
 * A test names the sentence of the document that it holds the program to before it asks anything under it.
 */
final class Due {
    static final int MIN = Integer.MIN_VALUE;
    static final int MAX = Integer.MAX_VALUE;

    private final String test;
    private String sentence = "";
    private int askedBefore = 0;
    private int asked = 0;
    private int wrong = 0;

    Due(String test) {
        this.test = test;
    }

    void sentence(String words) {
        endSentence();
        sentence = words;
        askedBefore = asked;
    }

    void is(String call, long got, long want) {
        asked++;
        if (got != want) {
            tell(call + " answered " + got + ", due is " + want);
        }
    }

    void holds(String claim, boolean holds) {
        asked++;
        if (!holds) {
            tell("does not hold: " + claim);
        }
    }

    void alike(String claim, String got, String want) {
        asked++;
        if (!got.equals(want)) {
            tell(claim + "\n    is     " + got + "\n    due is " + want);
        }
    }

    void end() {
        endSentence();
        System.out.println(test + ": " + asked + " asked, " + wrong + " wrong");
        if (wrong != 0 || asked == 0) {
            System.exit(1);
        }
    }

    private void tell(String what) {
        wrong++;
        // A broken program can be wrong a million times; the first hundred say enough.
        if (wrong <= 100) {
            System.out.println(test + ": " + what + (sentence.isEmpty() ? "" : "\n    under '" + sentence + "'"));
        }
    }

    private void endSentence() {
        // A sentence under which nothing was asked would pass whatever the program does.
        if (!sentence.isEmpty() && asked == askedBefore) {
            tell("nothing was asked");
        }
    }

    /** The code of a command, as promise 9 tells it. */
    static int code(int kind, int session, int key) {
        return 6 * (4 * kind + session) + key;
    }

    /**
     * Numbers that are outside 0 .. count - 1: the nearest ones, the farthest ones, and some that come back into range if
     * they are multiplied by the length of a row, or cut to a byte or a short, before they are looked at.
     */
    static int[] outside(int count) {
        return new int[] {
            -1, -2, -count, -72, -256, -65536, MIN + 1, MIN,
            count, count + 1, 2 * count, 72 + count, 256, 257, 65536, 65537, 1 << 28, 1 << 29, 1 << 30, MAX - 1, MAX};
    }

    /** The whole of what questions tell of an object, as one text; 99 calls. */
    static String seen(ElectedStore x) {
        StringBuilder text = new StringBuilder();
        text.append("leader ").append(x.leader()).append(" pending ").append(x.pending()).append(" faults ").append(x.faults());
        text.append(" keys");
        for (int key = 0; key < 6; key++) {
            text.append(' ').append(x.get(key)).append('/').append(x.canGet(key));
        }
        for (int node = 0; node < 5; node++) {
            text.append(" | ").append(x.isUp(node)).append(x.isMember(node)).append(' ').append(copy(x, node));
        }
        text.append("| same with 0");
        for (int other = 1; other < 5; other++) {
            text.append(' ').append(x.same(0, other));
        }
        return text.toString();
    }

    /** One node's copy of the state, as one text; 14 calls. */
    static String copy(ElectedStore x, int node) {
        StringBuilder text = new StringBuilder();
        for (int key = 0; key < 6; key++) {
            text.append(x.local(node, key)).append(' ');
        }
        for (int session = 0; session < 4; session++) {
            text.append(x.lastNumber(node, session)).append('/').append(x.answer(node, session)).append(' ');
        }
        return text.toString();
    }
}
