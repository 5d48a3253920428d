import java.util.Map;
import java.util.function.Consumer;

/** Promises 18 and 19: compact, faults. */
public final class CompactTest {
    private static final Due due = new Due("CompactTest");

    public static void main(String[] args) {
        changesNoQuestion();
        changesNoLaterAnswer();
        betweenAllCalls();
        whileTheStateIsMade();
        keepsThePendingCommand();
        keepsWhatANodeMustCatchUpWith();
        keepsTheLastNumbers();
        faultsInEveryState();
        faultsAllAlong();
        due.end();
    }

    private static void changesNoQuestion() {
        due.sentence("Changes no answer of any call.");
        for (Map.Entry<String, Consumer<ElectedStore>> state : States.all().entrySet()) {
            ElectedStore x = States.at(state.getValue());
            String before = Due.seen(x);
            x.compact();
            due.alike("questions after compact in state '" + state.getKey() + "'", Due.seen(x), before);
            x.compact();
            x.compact();
            due.alike("questions after three in state '" + state.getKey() + "'", Due.seen(x), before);
        }
    }

    private static void changesNoLaterAnswer() {
        due.sentence("Changes no answer of any call.");
        for (Map.Entry<String, Consumer<ElectedStore>> state : States.all().entrySet()) {
            for (int which = 0; which < 3 * States.FUTURES; which++) {
                ElectedStore x = States.at(state.getValue());
                ElectedStore y = States.at(state.getValue());
                y.compact();
                due.alike("future " + which + " of state '" + state.getKey() + "'",
                        States.future(y, which), States.future(x, which));
            }
        }
    }

    private static void betweenAllCalls() {
        due.sentence("Changes no answer of any call.");
        for (Map.Entry<String, Consumer<ElectedStore>> state : States.all().entrySet()) {
            for (int which = 0; which < 3 * States.FUTURES; which++) {
                ElectedStore x = States.at(state.getValue());
                ElectedStore y = States.at(state.getValue());
                due.alike("future " + which + " of state '" + state.getKey() + "'",
                        States.future(y, which, ElectedStore::compact), States.future(x, which));
            }
        }
    }

    /** Each call on the way to a state that a log could hold is followed by compact. */
    private static void whileTheStateIsMade() {
        due.sentence("Every node throws away what it does not need of its log.");
        ElectedStore x = new ElectedStore();
        ElectedStore y = new ElectedStore();
        long dice = 18;
        for (int call = 0; call < 130; call++) {
            dice = dice * 6364136223846793005L + 1442695040888963407L;
            int pick = (int) (dice >>> 33);
            due.is("call " + call, call(y, pick), call(x, pick));
            y.compact();
        }
        due.alike("all questions after them", Due.seen(y), Due.seen(x));
    }

    private static int call(ElectedStore x, int pick) {
        int node = pick / 8 % 5;
        switch (pick % 8) {
            case 0: return x.stop(node);
            case 1: case 2: return x.start(node);
            case 3: return x.move(node, pick / 40 % 2);
            case 4: return x.member(node, pick / 40 % 3 != 0);
            case 5: return x.submitAndStop(pick / 40 % 72, 1 + pick / 2880 % 50, pick % 7, 3);
            default: return x.submit(pick / 40 % 72, 1 + pick / 2880 % 50, pick % 7, 3);
        }
    }

    private static void keepsThePendingCommand() {
        due.sentence("Every node throws away what it does not need of its log.");
        ElectedStore x = new ElectedStore();
        x.stop(3);
        x.stop(4);
        x.submitAndStop(Due.code(0, 0, 0), 1, 8, 0);
        x.compact();
        due.is("pending()", x.pending(), 1);
        x.stop(1);
        x.compact();
        x.start(0);
        x.compact();
        due.is("pending() with the holder up", x.pending(), 1);
        x.start(1);
        due.is("pending() of 0, 1, 2", x.pending(), 0);
        due.is("get(0)", x.get(0), 8);
    }

    private static void keepsWhatANodeMustCatchUpWith() {
        due.sentence("Every node throws away what it does not need of its log.");
        ElectedStore x = new ElectedStore();
        x.stop(4);
        for (int number = 1; number <= 20; number++) {
            x.submit(Due.code(1, 0, 0), number, number, 0);
            x.compact();
        }
        due.is("local(4, 0): compact brings nobody up", x.local(4, 0), 0);
        x.start(4);
        due.is("local(4, 0)", x.local(4, 0), 210);
        due.is("same(0, 4)", x.same(0, 4), 1);
        due.is("faults()", x.faults(), 0);
    }

    private static void keepsTheLastNumbers() {
        due.sentence("Every node throws away what it does not need of its log.");
        ElectedStore x = States.at(States::fill);
        x.compact();
        for (int session = 0; session < 4; session++) {
            due.is("the last number", x.submit(Due.code(1, session, 0), 30 + session, 1, 0), 1);
            due.is("one less", x.submit(Due.code(1, session, 0), 29 + session, 1, 0), ElectedStore.OLD);
            due.is("answer(4, " + session + ")", x.answer(4, session), 200 + session);
        }
    }

    private static void faultsInEveryState() {
        due.sentence("How many faults a check of all logs finds: always 0.");
        for (Map.Entry<String, Consumer<ElectedStore>> state : States.all().entrySet()) {
            ElectedStore x = States.at(state.getValue());
            due.is("faults() in state '" + state.getKey() + "'", x.faults(), 0);
            x.compact();
            due.is("faults() after compact", x.faults(), 0);
            x.stop(-1);
            x.submit(72, 0, 0, 0);
            due.is("faults() after refused calls", x.faults(), 0);
        }
    }

    private static void faultsAllAlong() {
        due.sentence("How many faults a check of all logs finds: always 0.");
        for (Map.Entry<String, Consumer<ElectedStore>> state : States.all().entrySet()) {
            for (int which = 0; which < 3 * States.FUTURES; which++) {
                ElectedStore x = States.at(state.getValue());
                States.future(x, which, y -> due.is("faults() on the way from '" + state.getKey() + "'", y.faults(), 0));
            }
        }
    }
}
