import java.util.HashSet;
import java.util.Set;

/** Terms: how a command is done, at the edges of the ints too. */
public final class CommandTest {
    private static final int MIN = Due.MIN;
    private static final int MAX = Due.MAX;
    private static final int[] EDGES = {MIN, MIN + 1, -2, -1, 0, 1, 2, MAX - 1, MAX};
    private static final Due due = new Due("CommandTest");

    public static void main(String[] args) {
        everyPartMatters();
        everyCode();
        set();
        add();
        addWraps();
        exchange();
        exchangeElseItStays();
        theSessionsAnswer();
        theSessionsLastNumber();
        sessionsAreApart();
        theValueIsTheStates();
        due.end();
    }

    private static void everyPartMatters() {
        due.sentence("A COMMAND has a kind 0 .. 2, a session, a key, a number, and two ints a and b.");
        Set<String> outcomes = new HashSet<>();
        int commands = 0;
        for (int kind = 0; kind <= 2; kind++) {
            for (int session = 0; session <= 3; session++) {
                for (int key = 0; key <= 5; key++) {
                    for (int number = 7; number <= 8; number++) {
                        // By kinds 0 and 1 a matters alone; by kind 2 the value, 7, must be a, and b matters.
                        commands += 2;
                        outcomes.add(outcome(kind, session, key, number, kind == 2 ? 7 : 8, 70));
                        outcomes.add(outcome(kind, session, key, number, kind == 2 ? 7 : 9, 71));
                    }
                }
            }
        }
        due.is("commands that do all the same as another", commands - outcomes.size(), 0);
        due.alike("b by kind 0", outcome(0, 1, 2, 7, 9, MIN), outcome(0, 1, 2, 7, 9, MAX));
        due.alike("b by kind 1", outcome(1, 1, 2, 7, 9, MIN), outcome(1, 1, 2, 7, 9, MAX));
        due.alike("b by kind 2 if x is not a", outcome(2, 1, 2, 7, 9, MIN), outcome(2, 1, 2, 7, 9, MAX));
    }

    /** What is seen after one command, in a state where every key is 7. */
    private static String outcome(int kind, int session, int key, int number, int a, int b) {
        ElectedStore x = new ElectedStore();
        for (int each = 0; each < 6; each++) {
            x.submit(Due.code(0, session, each), each + 1, 7, 0);
        }
        due.is("submit", x.submit(Due.code(kind, session, key), number, a, b), 0);
        return Due.seen(x);
    }

    private static void everyCode() {
        due.sentence("code is 6 * (4 * kind + session) + key");
        for (int code = 0; code < 72; code++) {
            int kind = code / 24;
            int session = code / 6 % 4;
            int key = code % 6;
            ElectedStore x = new ElectedStore();
            for (int each = 0; each < 6; each++) {
                x.submit(Due.code(0, (session + 1) % 4, each), each + 1, 10 + each, 0);
            }
            due.is("submit(" + code + ", 3, 10 + key, 99)", x.submit(code, 3, 10 + key, 99), 0);
            int want = kind == 0 ? 10 + key : kind == 1 ? 20 + 2 * key : 99;
            for (int each = 0; each < 6; each++) {
                due.is("get(" + each + ") after code " + code, x.get(each), each == key ? want : 10 + each);
            }
            for (int each = 0; each < 4; each++) {
                int number = each == session ? 3 : each == (session + 1) % 4 ? 6 : 0;
                due.is("lastNumber after code " + code, x.lastNumber(2, each), number);
                due.is("answer after code " + code, x.answer(2, each), each == session ? 10 + key : 0);
            }
        }
    }

    /** Key 2 is x, set by session 3. */
    private static ElectedStore holding(int x) {
        ElectedStore store = new ElectedStore();
        store.submit(Due.code(0, 3, 2), 1, x, 0);
        return store;
    }

    private static void set() {
        due.sentence("by kind 0 the value becomes a");
        for (int x : EDGES) {
            for (int a : EDGES) {
                ElectedStore store = holding(x);
                due.is("submit", store.submit(Due.code(0, 0, 2), 1, a, 1234), 0);
                due.is("get(2) after " + x + " was set to " + a, store.get(2), a);
            }
        }
    }

    private static void add() {
        due.sentence("by 1 it becomes x + a");
        for (int x : EDGES) {
            for (int a : EDGES) {
                long sum = (long) x + a;
                if (sum >= MIN && sum <= MAX) {
                    ElectedStore store = holding(x);
                    due.is("submit", store.submit(Due.code(1, 0, 2), 1, a, 1234), 0);
                    due.is("get(2) after " + x + " + " + a, store.get(2), sum);
                }
            }
        }
    }

    private static void addWraps() {
        due.sentence("by 1 it becomes x + a (wrapping)");
        int[][] sums = {{MAX, 1, MIN}, {MIN, -1, MAX}, {MAX, MAX, -2}, {MIN, MIN, 0}, {MAX - 1, 2, MIN}, {MIN + 1, -2, MAX},
                {1, MAX, MIN}, {-1, MIN, MAX}, {MIN, MIN + 1, 1}, {MAX, 2, MIN + 1}};
        for (int[] sum : sums) {
            ElectedStore x = holding(sum[0]);
            due.is("submit", x.submit(Due.code(1, 0, 2), 1, sum[1], 1234), 0);
            due.is("get(2) after " + sum[0] + " + " + sum[1], x.get(2), sum[2]);
            due.is("local(4, 2)", x.local(4, 2), sum[2]);
            due.is("answer(4, 0), the value before", x.answer(4, 0), sum[0]);
        }
    }

    private static void exchange() {
        due.sentence("by 2 it becomes b if x is a");
        for (int x : EDGES) {
            for (int b : EDGES) {
                ElectedStore store = holding(x);
                due.is("submit", store.submit(Due.code(2, 0, 2), 1, x, b), 0);
                due.is("get(2) after " + x + " for " + b, store.get(2), b);
                due.is("answer(1, 0), the value before", store.answer(1, 0), x);
            }
        }
    }

    private static void exchangeElseItStays() {
        due.sentence("by 2 it becomes b if x is a, else it stays");
        for (int x : EDGES) {
            for (int a : EDGES) {
                if (a != x) {
                    ElectedStore store = holding(x);
                    due.is("submit", store.submit(Due.code(2, 0, 2), 7, a, 1234), 0);
                    due.is("get(2), which was " + x + " and not " + a, store.get(2), x);
                    due.is("lastNumber(1, 0) all the same", store.lastNumber(1, 0), 7);
                    due.is("answer(1, 0) all the same", store.answer(1, 0), x);
                }
            }
        }
        ElectedStore store = holding(5);
        store.submit(Due.code(2, 0, 2), 1, 9, 5);
        due.is("get(2): b is no condition", store.get(2), 5);
    }

    private static void theSessionsAnswer() {
        due.sentence("The session's last number becomes the command's number, and its answer x.");
        for (int kind = 0; kind <= 2; kind++) {
            for (int x : EDGES) {
                ElectedStore store = holding(x);
                store.submit(Due.code(kind, 1, 2), 1, x, 77);
                for (int node = 0; node < 5; node++) {
                    due.is("answer(" + node + ", 1) by kind " + kind, store.answer(node, 1), x);
                }
            }
        }
        // The answer is that of the key at hand, whatever the session did before.
        ElectedStore store = holding(8);
        store.submit(Due.code(1, 1, 2), 1, 1, 0);
        store.submit(Due.code(1, 1, 4), 2, 1, 0);
        due.is("answer(0, 1) after another key", store.answer(0, 1), 0);
        store.submit(Due.code(1, 1, 2), 3, 1, 0);
        due.is("answer(0, 1)", store.answer(0, 1), 9);
    }

    private static void theSessionsLastNumber() {
        due.sentence("The session's last number becomes the command's number, and its answer x.");
        for (int number : new int[] {1, 2, 255, 256, 65535, 65536, MAX - 1, MAX}) {
            for (int session = 0; session < 4; session++) {
                ElectedStore x = new ElectedStore();
                x.submit(Due.code(2, session, 5), number, 0, 0);
                for (int node = 0; node < 5; node++) {
                    for (int each = 0; each < 4; each++) {
                        due.is("lastNumber(" + node + ", " + each + ")", x.lastNumber(node, each), each == session ? number : 0);
                    }
                }
            }
        }
    }

    private static void sessionsAreApart() {
        due.sentence("SESSIONS 0 .. 3, each with a LAST NUMBER (0 at first) and an ANSWER (0 at first)");
        ElectedStore x = new ElectedStore();
        for (int session = 0; session < 4; session++) {
            due.is("a lesser number in a later session", x.submit(Due.code(1, session, 1), 9 - session, 1, 0), 0);
        }
        for (int session = 0; session < 4; session++) {
            due.is("lastNumber", x.lastNumber(3, session), 9 - session);
            due.is("answer", x.answer(3, session), session);
        }
        due.is("get(1)", x.get(1), 4);
    }

    private static void theValueIsTheStates() {
        due.sentence("It is DONE so: let x be the key's value");
        // 3 and 4 are behind; whoever of them comes to the quorum, the command starts from the state's value.
        ElectedStore x = holding(5);
        x.stop(3);
        x.stop(4);
        x.submit(Due.code(1, 3, 2), 2, 10, 0);
        due.is("local(4, 2)", x.local(4, 2), 5);
        x.stop(0);
        x.stop(1);
        x.start(4);
        x.start(3);
        due.is("submit", x.submit(Due.code(1, 0, 2), 1, 100, 0), 0);
        for (int node = 2; node < 5; node++) {
            due.is("local(" + node + ", 2)", x.local(node, 2), 115);
            due.is("answer(" + node + ", 0)", x.answer(node, 0), 15);
        }
        due.is("submit", x.submit(Due.code(2, 1, 2), 1, 115, -1), 0);
        due.is("get(2)", x.get(2), -1);
        due.is("answer(3, 1)", x.answer(3, 1), 115);
    }
}
