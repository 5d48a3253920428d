/** Counts the answers of one test that are not the ones that are due, and ends the test with exit code 1 if there are any. */
final class Due {
    private final String test;
    private int asked = 0;
    private int wrong = 0;

    Due(String test) {
        this.test = test;
    }

    void is(String call, long got, long want) {
        asked++;
        if (got != want) {
            wrong++;
            System.out.println(test + ": " + call + " answered " + got + ", due is " + want);
        }
    }

    void holds(String claim, boolean holds) {
        asked++;
        if (!holds) {
            wrong++;
            System.out.println(test + ": does not hold: " + claim);
        }
    }

    void end() {
        System.out.println(test + ": " + asked + " asked, " + wrong + " wrong");
        if (wrong != 0 || asked == 0) {
            System.exit(1);
        }
    }

    /** The code of a command, as promise 9 tells it. */
    static int code(int kind, int session, int key) {
        return 6 * (4 * kind + session) + key;
    }

    /** Numbers that are no good node, key, session or group, whatever the upper bound below 72 is. */
    static int[] farOff() {
        return new int[] {-1, -2, -6, -100, Integer.MIN_VALUE, 72, 100, 1 << 30, Integer.MAX_VALUE};
    }

    /** The whole of what questions tell of an object, as one text. */
    static String seen(ElectedStore x) {
        StringBuilder text = new StringBuilder();
        text.append(x.leader()).append(' ').append(x.pending()).append(' ').append(x.faults());
        for (int key = 0; key < 6; key++) {
            text.append(' ').append(x.get(key)).append(' ').append(x.canGet(key));
        }
        for (int node = 0; node < 5; node++) {
            text.append(" | ").append(x.isUp(node)).append(' ').append(x.isMember(node)).append(' ').append(copy(x, node));
        }
        return text.toString();
    }

    /** One node's copy of the state, as one text. */
    static String copy(ElectedStore x, int node) {
        StringBuilder text = new StringBuilder();
        for (int key = 0; key < 6; key++) {
            text.append(x.local(node, key)).append(' ');
        }
        for (int session = 0; session < 4; session++) {
            text.append(x.lastNumber(node, session)).append(' ').append(x.answer(node, session)).append(' ');
        }
        return text.toString();
    }
}
