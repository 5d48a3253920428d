/** Promise 9: submit. */
public final class SubmitTest {
    private static final int MIN = Integer.MIN_VALUE;
    private static final int MAX = Integer.MAX_VALUE;
    private static final Due due = new Due("SubmitTest");

    public static void main(String[] args) {
        everyCode();
        set();
        add();
        exchange();
        numbers();
        sessionsAreApart();
        wrongInputs();
        orderOfTests();
        theQuorumAloneIsBroughtUp();
        due.end();
    }

    private static void everyCode() {
        for (int code = 0; code < 72; code++) {
            int kind = code / 24;
            int session = code / 6 % 4;
            int key = code % 6;
            ElectedStore x = new ElectedStore();
            for (int each = 0; each < 6; each++) {
                x.submit(Due.code(0, (session + 1) % 4, each), each + 1, 10 + each, 0);
            }
            due.is("submit(code, 3, 10 + key, 99)", x.submit(code, 3, 10 + key, 99), 0);
            int want = kind == 0 ? 10 + key : kind == 1 ? 20 + 2 * key : 99;
            for (int each = 0; each < 6; each++) {
                due.is("get after code " + code, x.get(each), each == key ? want : 10 + each);
            }
            for (int each = 0; each < 4; each++) {
                int number = each == session ? 3 : each == (session + 1) % 4 ? 6 : 0;
                due.is("lastNumber after code " + code, x.lastNumber(2, each), number);
                due.is("answer after code " + code, x.answer(2, each), each == session ? 10 + key : 0);
            }
        }
    }

    private static void set() {
        ElectedStore x = new ElectedStore();
        int[] values = {1, 0, -1, MIN, MAX, 5};
        int before = 0;
        for (int i = 0; i < values.length; i++) {
            due.is("set", x.submit(Due.code(0, 0, 2), i + 1, values[i], 1234), 0);
            due.is("get(2)", x.get(2), values[i]);
            due.is("answer(0, 0) is the value before", x.answer(0, 0), before);
            before = values[i];
        }
    }

    private static void add() {
        ElectedStore x = new ElectedStore();
        int[] parts = {MAX, 1, MIN, -1, MIN, MIN, 7};
        int sum = 0;
        for (int i = 0; i < parts.length; i++) {
            due.is("add", x.submit(Due.code(1, 3, 5), i + 1, parts[i], 1234), 0);
            due.is("answer(4, 3) is the value before", x.answer(4, 3), sum);
            sum += parts[i];
            due.is("get(5), wrapping", x.get(5), sum);
        }
    }

    private static void exchange() {
        ElectedStore x = new ElectedStore();
        due.is("0 for 8", x.submit(Due.code(2, 1, 0), 1, 0, 8), 0);
        due.is("get(0)", x.get(0), 8);
        due.is("7 for 9, which is not there", x.submit(Due.code(2, 1, 0), 2, 7, 9), 0);
        due.is("get(0) stays", x.get(0), 8);
        due.is("lastNumber(0, 1) all the same", x.lastNumber(0, 1), 2);
        due.is("answer(0, 1) all the same", x.answer(0, 1), 8);
        due.is("8 for MIN", x.submit(Due.code(2, 1, 0), 3, 8, MIN), 0);
        due.is("get(0)", x.get(0), MIN);
        due.is("MIN for MAX", x.submit(Due.code(2, 1, 0), 4, MIN, MAX), 0);
        due.is("get(0)", x.get(0), MAX);
        due.is("MIN for 0, which is not there", x.submit(Due.code(2, 1, 0), 5, MIN, 0), 0);
        due.is("get(0)", x.get(0), MAX);
    }

    private static void numbers() {
        ElectedStore x = new ElectedStore();
        int add = Due.code(1, 0, 0);
        due.is("5", x.submit(add, 5, 1, 0), 0);
        String before = Due.seen(x);
        due.is("5 again", x.submit(add, 5, 1, 0), 1);
        due.is("5 again, with another command", x.submit(Due.code(0, 0, 3), 5, 9, 9), 1);
        due.is("4", x.submit(add, 4, 1, 0), ElectedStore.OLD);
        due.is("1", x.submit(add, 1, 1, 0), ElectedStore.OLD);
        due.holds("nothing happens", Due.seen(x).equals(before));
        due.is("7", x.submit(add, 7, 1, 0), 0);
        due.is("6", x.submit(add, 6, 1, 0), ElectedStore.OLD);
        due.is("MAX", x.submit(add, MAX, 1, 0), 0);
        due.is("MAX again", x.submit(add, MAX, 1, 0), 1);
        due.is("MAX - 1", x.submit(add, MAX - 1, 1, 0), ElectedStore.OLD);
        due.is("get(0)", x.get(0), 3);
        due.is("lastNumber(1, 0)", x.lastNumber(1, 0), MAX);
    }

    private static void sessionsAreApart() {
        ElectedStore x = new ElectedStore();
        for (int session = 0; session < 4; session++) {
            due.is("a lesser number in a later session", x.submit(Due.code(1, session, 1), 9 - session, 1, 0), 0);
        }
        for (int session = 0; session < 4; session++) {
            due.is("lastNumber", x.lastNumber(3, session), 9 - session);
            due.is("answer", x.answer(3, session), session);
        }
        due.is("get(1)", x.get(1), 4);
    }

    private static void wrongInputs() {
        ElectedStore x = new ElectedStore();
        x.submit(0, 1, 1, 1);
        String before = Due.seen(x);
        for (int code : Due.farOff()) {
            due.is("submit of no code", x.submit(code, 2, 3, 4), ElectedStore.BAD);
        }
        for (int number : new int[] {0, -1, -2, MIN}) {
            due.is("submit of a number below 1", x.submit(0, number, 3, 4), ElectedStore.BAD);
            due.is("submit of a number below 1, at the last code", x.submit(71, number, 3, 4), ElectedStore.BAD);
        }
        due.holds("refused calls change nothing", Due.seen(x).equals(before));
        due.is("submit(71, 1, ..)", x.submit(71, 1, 0, 4), 0);
    }

    private static void orderOfTests() {
        ElectedStore x = new ElectedStore();
        x.submit(0, 5, 1, 1);
        x.stop(0);
        x.stop(1);
        x.stop(2);
        String before = Due.seen(x);
        due.is("BAD comes before NO_QUORUM", x.submit(72, 6, 0, 0), ElectedStore.BAD);
        due.is("BAD comes before NO_QUORUM", x.submit(0, 0, 0, 0), ElectedStore.BAD);
        due.is("NO_QUORUM comes before OLD", x.submit(0, 4, 0, 0), ElectedStore.NO_QUORUM);
        due.is("NO_QUORUM comes before 1", x.submit(0, 5, 0, 0), ElectedStore.NO_QUORUM);
        due.is("NO_QUORUM", x.submit(0, 6, 0, 0), ElectedStore.NO_QUORUM);
        due.holds("refused calls change nothing", Due.seen(x).equals(before));
    }

    private static void theQuorumAloneIsBroughtUp() {
        ElectedStore x = new ElectedStore();
        x.stop(1);
        x.member(2, false);
        x.submit(Due.code(0, 0, 4), 1, 6, 0);
        for (int node = 0; node < 5; node++) {
            boolean in = node != 1 && node != 2;
            due.is("local(" + node + ", 4)", x.local(node, 4), in ? 6 : 0);
            due.is("lastNumber(" + node + ", 0)", x.lastNumber(node, 0), in ? 1 : 0);
        }
    }
}
