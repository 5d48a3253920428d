import java.util.function.Consumer;
import java.util.function.ToIntFunction;

/**
 * 'An object is used for at most 512 calls after it has been made': runs of exactly 512 calls, the last of which is the
 * question, so that each question and each answer is looked at as late as it may come. After them nothing is promised, so
 * nothing is asked.
 */
public final class LimitTest {
    private static final int CALLS = 512;
    private static final int ADD = Due.code(1, 1, 2);
    private static final Due due = new Due("LimitTest");

    public static void main(String[] args) {
        due.sentence("An object is used for at most 512 calls after it has been made");
        commandsAlone();
        commandsOfAllSessions();
        oneIsBehindAllTheWhile();
        oneGroupIsBehindAllTheWhile();
        pendingAllTheWhile();
        pendingAgainAndAgain();
        droppedAgainAndAgain();
        leadersComeAndGo();
        nodesMove();
        membersComeAndGo();
        refusedCalls();
        repeatedCommands();
        compactAllTheWhile();
        questionsAlone();
        due.end();
    }

    /** Makes a new object, has 511 calls made on it, and looks at what the 512th answers. */
    private static void last(String name, Consumer<ElectedStore> calls511, ToIntFunction<ElectedStore> question, int want) {
        ElectedStore x = new ElectedStore();
        calls511.accept(x);
        due.is(name, question.applyAsInt(x), want);
    }

    private static void add(ElectedStore x, int from, int to) {
        for (int number = from; number <= to; number++) {
            due.is("submit with " + number, x.submit(ADD, number, number, 0), 0);
        }
    }

    private static int sum(int to) {
        return to * (to + 1) / 2;
    }

    private static void commandsAlone() {
        int done = CALLS - 1;
        Consumer<ElectedStore> way = x -> add(x, 1, done);
        last("get(2)", way, x -> x.get(2), sum(done));
        last("canGet(2)", way, x -> x.canGet(2), 0);
        last("get(3)", way, x -> x.get(3), 0);
        last("leader()", way, ElectedStore::leader, 0);
        last("pending()", way, ElectedStore::pending, 0);
        last("faults()", way, ElectedStore::faults, 0);
        for (int node = 0; node < 5; node++) {
            int each = node;
            last("local(" + each + ", 2)", way, x -> x.local(each, 2), sum(done));
            last("lastNumber(" + each + ", 1)", way, x -> x.lastNumber(each, 1), done);
            last("answer(" + each + ", 1)", way, x -> x.answer(each, 1), sum(done - 1));
            last("same(" + each + ", 0)", way, x -> x.same(each, 0), 1);
            last("isUp(" + each + ")", way, x -> x.isUp(each), 1);
            last("isMember(" + each + ")", way, x -> x.isMember(each), 1);
            last("stop(" + each + ")", way, x -> x.stop(each), 1);
            last("start(" + each + ")", way, x -> x.start(each), 0);
            last("move(" + each + ", 1)", way, x -> x.move(each, 1), 0);
            last("member(" + each + ", false)", way, x -> x.member(each, false), 1);
        }
        last("submit, the 512th", way, x -> x.submit(ADD, CALLS, 1, 0), 0);
        last("submit of the last number", way, x -> x.submit(ADD, done, 1, 0), 1);
        last("submit of a number before", way, x -> x.submit(ADD, done - 1, 1, 0), ElectedStore.OLD);
        last("submitAndStop, the 512th", way, x -> x.submitAndStop(ADD, CALLS, 1, 0), 3);
    }

    private static void commandsOfAllSessions() {
        Consumer<ElectedStore> way = x -> {
            for (int call = 0; call < CALLS - 1; call++) {
                due.is("submit", x.submit(call % 72, call + 1, call, call + 1), 0);
            }
        };
        int[] values = new int[6];
        int[] numbers = new int[4];
        int[] answers = new int[4];
        for (int call = 0; call < CALLS - 1; call++) {
            int key = call % 6;
            int session = call / 6 % 4;
            int kind = call / 24 % 3;
            answers[session] = values[key];
            numbers[session] = call + 1;
            values[key] = kind == 0 ? call : kind == 1 ? values[key] + call : values[key] == call ? call + 1 : values[key];
        }
        for (int key = 0; key < 6; key++) {
            int each = key;
            last("get(" + each + ")", way, x -> x.get(each), values[each]);
        }
        for (int session = 0; session < 4; session++) {
            int each = session;
            last("lastNumber(4, " + each + ")", way, x -> x.lastNumber(4, each), numbers[each]);
            last("answer(4, " + each + ")", way, x -> x.answer(4, each), answers[each]);
        }
    }

    private static void oneIsBehindAllTheWhile() {
        int done = CALLS - 3;
        Consumer<ElectedStore> way = x -> {
            x.stop(4);
            add(x, 1, done);
            due.is("start(4)", x.start(4), 1);
        };
        last("local(4, 2)", way, x -> x.local(4, 2), sum(done));
        last("lastNumber(4, 1)", way, x -> x.lastNumber(4, 1), done);
        last("answer(4, 1)", way, x -> x.answer(4, 1), sum(done - 1));
        last("same(4, 0)", way, x -> x.same(4, 0), 1);
        Consumer<ElectedStore> away = x -> {
            x.stop(4);
            add(x, 1, done);
            x.compact();
        };
        last("local(4, 2) while it is down", away, x -> x.local(4, 2), 0);
        last("lastNumber(4, 1) while it is down", away, x -> x.lastNumber(4, 1), 0);
        last("same(4, 0) while it is down", away, x -> x.same(4, 0), 0);
    }

    private static void oneGroupIsBehindAllTheWhile() {
        int done = CALLS - 9;
        Consumer<ElectedStore> way = x -> {
            x.move(0, 1);
            x.move(1, 1);
            due.is("leader() of 2, 3, 4", x.leader(), 2);
            add(x, 1, done);
            x.stop(3);
            x.stop(4);
            due.is("local(0, 2)", x.local(0, 2), 0);
            x.move(2, 1);
            due.is("leader() of 0, 1, 2: the only one that is current", x.leader(), 2);
        };
        last("local(0, 2)", way, x -> x.local(0, 2), sum(done));
        last("local(1, 2)", way, x -> x.local(1, 2), sum(done));
        last("get(2)", way, x -> x.get(2), sum(done));
    }

    private static void pendingAllTheWhile() {
        Consumer<ElectedStore> way = x -> {
            x.stop(3);
            x.stop(4);
            due.is("submitAndStop", x.submitAndStop(ADD, 1, 8, 0), 2);
            for (int call = 0; call < CALLS - 5; call++) {
                due.is("submit", x.submit(ADD, 2 + call, 1, 0), ElectedStore.NO_QUORUM);
            }
            due.is("start(0)", x.start(0), 1);
        };
        last("get(2)", way, x -> x.get(2), 8);
        last("lastNumber(2, 1)", way, x -> x.lastNumber(2, 1), 1);
        last("pending()", way, ElectedStore::pending, 0);
        last("leader()", way, ElectedStore::leader, 0);
        Consumer<ElectedStore> comingAndGoing = x -> {
            x.stop(3);
            x.stop(4);
            due.is("submitAndStop", x.submitAndStop(ADD, 1, 8, 0), 2);
            for (int call = 0; call < (CALLS - 4) / 2; call++) {
                due.is("stop(1)", x.stop(1), 1);
                due.is("start(1)", x.start(1), 1);
            }
        };
        last("pending()", comingAndGoing, ElectedStore::pending, 1);
        last("start(0)", comingAndGoing, x -> x.start(0), 1);
    }

    private static void pendingAgainAndAgain() {
        // 0, 1 and 2 are up: the leader goes with a command and comes back, 254 times.
        int times = (CALLS - 3) / 2;
        Consumer<ElectedStore> way = x -> {
            x.stop(3);
            x.stop(4);
            for (int number = 1; number <= times; number++) {
                due.is("submitAndStop with " + number, x.submitAndStop(ADD, number, number, 0), 2);
                due.is("start(0)", x.start(0), 1);
            }
            x.compact();
        };
        last("get(2)", way, x -> x.get(2), sum(times));
        last("lastNumber(1, 1)", way, x -> x.lastNumber(1, 1), times);
        last("local(4, 2)", way, x -> x.local(4, 2), 0);
        last("leader()", way, ElectedStore::leader, 0);
        last("submitAndStop", way, x -> x.submitAndStop(ADD, times + 1, 1, 0), 2);
    }

    private static void droppedAgainAndAgain() {
        int times = (CALLS - 1) / 2;
        Consumer<ElectedStore> way = x -> {
            for (int number = 1; number <= times; number++) {
                due.is("submitAndStop with " + number, x.submitAndStop(ADD, number, number, 0), 3);
                // 0 and 1 lead in turn, for each is back before the other one goes.
                due.is("start", x.start((number + 1) % 2), 1);
            }
            x.compact();
        };
        last("get(2)", way, x -> x.get(2), 0);
        last("lastNumber(0, 1)", way, x -> x.lastNumber(0, 1), 0);
        last("pending()", way, ElectedStore::pending, 0);
        last("leader()", way, ElectedStore::leader, times % 2);
        last("submit", way, x -> x.submit(ADD, 1, 1, 0), 0);
    }

    private static void leadersComeAndGo() {
        int times = (CALLS - 1) / 2;
        Consumer<ElectedStore> way = x -> {
            for (int time = 0; time < times; time++) {
                due.is("stop of the leader", x.stop(time % 2), 1);
                due.is("start", x.start(time % 2), 1);
            }
            x.compact();
        };
        last("leader()", way, ElectedStore::leader, times % 2);
        last("canGet(0)", way, x -> x.canGet(0), 0);
    }

    private static void nodesMove() {
        Consumer<ElectedStore> way = x -> {
            int[] groups = new int[5];
            for (int call = 0; call < CALLS - 1; call++) {
                int node = call * 7 % 5;
                int group = call * 11 % 3;
                due.is("move", x.move(node, group), groups[node]);
                groups[node] = group;
            }
        };
        int[] groups = new int[5];
        for (int call = 0; call < CALLS - 1; call++) {
            groups[call * 7 % 5] = call * 11 % 3;
        }
        for (int node = 0; node < 5; node++) {
            int each = node;
            last("move(" + each + ", 0)", way, x -> x.move(each, 0), groups[each]);
        }
    }

    private static void membersComeAndGo() {
        int times = (CALLS - 1) / 2;
        Consumer<ElectedStore> way = x -> {
            for (int time = 0; time < times; time++) {
                due.is("member(2, false)", x.member(2, false), 1);
                due.is("member(2, true)", x.member(2, true), 1);
            }
            due.is("member(2, false)", x.member(2, false), 1);
        };
        last("isMember(2)", way, x -> x.isMember(2), 0);
        last("member(2, true)", way, x -> x.member(2, true), 1);
        last("leader()", way, ElectedStore::leader, 0);
    }

    private static void refusedCalls() {
        Consumer<ElectedStore> way = x -> {
            for (int call = 0; call < CALLS - 2; call += 5) {
                due.is("submit(72, ..)", x.submit(72, 1, 1, 1), ElectedStore.BAD);
                due.is("submitAndStop(-1, ..)", x.submitAndStop(-1, 1, 1, 1), ElectedStore.BAD);
                due.is("member(5, false)", x.member(5, false), ElectedStore.BAD);
                due.is("stop(-1)", x.stop(-1), ElectedStore.BAD);
                due.is("move(0, 3)", x.move(0, 3), ElectedStore.BAD);
            }
            due.is("submit", x.submit(ADD, 1, 6, 0), 0);
        };
        last("get(2)", way, x -> x.get(2), 6);
        last("leader()", way, ElectedStore::leader, 0);
        last("move(0, 1)", way, x -> x.move(0, 1), 0);
    }

    private static void repeatedCommands() {
        Consumer<ElectedStore> way = x -> {
            due.is("submit", x.submit(ADD, 2, 6, 0), 0);
            for (int call = 0; call < CALLS - 2; call += 2) {
                due.is("submit again", x.submit(ADD, 2, 6, 0), 1);
                due.is("submit of an old one", x.submit(ADD, 1, 6, 0), ElectedStore.OLD);
            }
        };
        last("get(2)", way, x -> x.get(2), 6);
        last("lastNumber(0, 1)", way, x -> x.lastNumber(0, 1), 2);
        last("submit of a new one", way, x -> x.submit(ADD, 3, 6, 0), 0);
    }

    private static void compactAllTheWhile() {
        int times = (CALLS - 1) / 2;
        Consumer<ElectedStore> way = x -> {
            for (int number = 1; number <= times; number++) {
                due.is("submit", x.submit(ADD, number, number, 0), 0);
                x.compact();
            }
            x.compact();
        };
        last("get(2)", way, x -> x.get(2), sum(times));
        last("faults()", way, ElectedStore::faults, 0);
        last("local(3, 2)", way, x -> x.local(3, 2), sum(times));
    }

    private static void questionsAlone() {
        Consumer<ElectedStore> way = x -> {
            String anew = Due.seen(x);
            for (int time = 2; time <= 5; time++) {
                due.alike("time " + time, Due.seen(x), anew);
            }
            for (int call = 5 * 99; call < CALLS - 1; call++) {
                due.is("leader()", x.leader(), 0);
            }
        };
        last("submit", way, x -> x.submit(ADD, 1, 1, 0), 0);
        last("stop(0)", way, x -> x.stop(0), 1);
    }
}
