import java.util.LinkedHashMap;
import java.util.Map;
import java.util.TreeMap;
import java.util.function.Consumer;
import java.util.function.ToIntFunction;

/**
 * 'A refused call (an answer below 0) changes nothing. Questions change nothing.': in every kind of state, what all
 * questions and the calls after it answer with the call and without it.
 */
public final class RefusalTest {
    private static final Due due = new Due("RefusalTest");
    private static final TreeMap<String, Integer> reached = new TreeMap<>();

    public static void main(String[] args) {
        refusedCalls();
        everyRefusalWasReached();
        callsThatAreAnsweredButDoNothing();
        questions();
        due.end();
    }

    private static void refusedCalls() {
        due.sentence("A refused call (an answer below 0) changes nothing.");
        Map<String, ToIntFunction<ElectedStore>> calls = actions();
        for (Map.Entry<String, Consumer<ElectedStore>> state : States.all().entrySet()) {
            for (Map.Entry<String, ToIntFunction<ElectedStore>> call : calls.entrySet()) {
                int answer = call.getValue().applyAsInt(States.at(state.getValue()));
                if (answer < 0) {
                    String name = call.getKey();
                    reached.merge(name.substring(0, name.indexOf('(')) + " " + answer, 1, Integer::sum);
                    changesNothing(state, call);
                }
            }
        }
    }

    private static void everyRefusalWasReached() {
        due.sentence("A refused call (an answer below 0) changes nothing.");
        String[] named = {"stop -1", "start -1", "move -1", "member -1", "member -2", "member -4", "member -5",
                "submit -1", "submit -2", "submit -3", "submitAndStop -1", "submitAndStop -2", "submitAndStop -3"};
        for (String refusal : named) {
            due.holds("among the calls was " + refusal, reached.containsKey(refusal));
        }
        due.is("kinds of refusals", reached.size(), named.length);
    }

    private static void callsThatAreAnsweredButDoNothing() {
        due.sentence("it is so already: 0 is the answer, and nothing happens");
        for (int node = 0; node < 5; node++) {
            int each = node;
            int done = nothingHappens("member(" + each + ", true)", 0, x -> x.isMember(each) == 1, x -> x.member(each, true));
            due.holds("some state has it so", done > 0);
            done = nothingHappens("member(" + each + ", false)", 0, x -> x.isMember(each) == 0, x -> x.member(each, false));
            due.holds("some state has it so", done > 0);
        }
        due.sentence("If it is the last number of the session, nothing happens, and the answer is 1.");
        for (int session = 0; session < 4; session++) {
            int each = session;
            for (int number : new int[] {1, 30 + session, 50, 60, Due.MAX - 1, Due.MAX}) {
                nothingHappens("submit", 1, x -> lastNumber(x, each) == number, x -> x.submit(Due.code(0, each, 2), number, 9, 9));
                nothingHappens("submitAndStop", 1, x -> lastNumber(x, each) == number,
                        x -> x.submitAndStop(Due.code(1, each, 2), number, 9, 9));
            }
        }
        due.sentence("A node goes down (if it is up)");
        for (int node = 0; node < 5; node++) {
            int each = node;
            int done = nothingHappens("stop(" + each + ")", 0, x -> x.isUp(each) == 0, x -> x.stop(each));
            due.holds("some state has it down", done > 0);
        }
        due.sentence("A node comes up (if it is down)");
        for (int node = 0; node < 5; node++) {
            int each = node;
            nothingHappens("start(" + each + ")", 0, x -> x.isUp(each) == 1, x -> x.start(each));
        }
        due.sentence("A node goes to a group; then there is a settling.");
        for (int node = 0; node < 5; node++) {
            for (int group = 0; group < 3; group++) {
                int each = node;
                int to = group;
                nothingHappens("move(" + each + ", " + to + ")", to, x -> x.move(each, to) == to, x -> x.move(each, to));
            }
        }
    }

    private interface Test {
        boolean holds(ElectedStore x);
    }

    /** The last number of a session as a node in the quorum has it; below 0 if there is no quorum. */
    private static int lastNumber(ElectedStore x, int session) {
        return x.leader() < 0 ? -1 : x.lastNumber(x.leader(), session);
    }

    /** In how many states the call was one that has to do nothing. */
    private static int nothingHappens(String name, int answer, Test isSo, ToIntFunction<ElectedStore> call) {
        int states = 0;
        for (Map.Entry<String, Consumer<ElectedStore>> state : States.all().entrySet()) {
            ElectedStore x = States.at(state.getValue());
            boolean isMember = name.startsWith("member");
            if (isSo.holds(States.at(state.getValue())) && !(isMember && x.leader() < 0)) {
                states++;
                due.is(name + " in state '" + state.getKey() + "'", call.applyAsInt(x), answer);
                changesNothing(state, Map.entry(name, call));
            }
        }
        return states;
    }

    private static void questions() {
        due.sentence("Questions change nothing.");
        Map<String, ToIntFunction<ElectedStore>> calls = questionCalls();
        for (Map.Entry<String, Consumer<ElectedStore>> state : States.all().entrySet()) {
            for (Map.Entry<String, ToIntFunction<ElectedStore>> call : calls.entrySet()) {
                changesNothing(state, call);
            }
        }
    }

    private static void changesNothing(Map.Entry<String, Consumer<ElectedStore>> state,
            Map.Entry<String, ToIntFunction<ElectedStore>> call) {
        String where = call.getKey() + " in state '" + state.getKey() + "'";
        ElectedStore x = States.at(state.getValue());
        String before = Due.seen(x);
        call.getValue().applyAsInt(x);
        due.alike("questions after " + where, Due.seen(x), before);
        for (int which = 0; which < States.FUTURES; which++) {
            x = States.at(state.getValue());
            ElectedStore y = States.at(state.getValue());
            call.getValue().applyAsInt(y);
            due.alike("future " + which + " after " + where, States.future(y, which), States.future(x, which));
        }
    }

    /** Calls of every kind that may be refused; which of them are is seen by their answers. */
    private static Map<String, ToIntFunction<ElectedStore>> actions() {
        Map<String, ToIntFunction<ElectedStore>> calls = new LinkedHashMap<>();
        for (int node : new int[] {Due.MIN, -1, 0, 1, 2, 3, 4, 5, Due.MAX}) {
            calls.put("stop(" + node + ")", x -> x.stop(node));
            calls.put("start(" + node + ")", x -> x.start(node));
            calls.put("member(" + node + ", true)", x -> x.member(node, true));
            calls.put("member(" + node + ", false)", x -> x.member(node, false));
        }
        for (int far : new int[] {Due.MIN, -1, 5, Due.MAX}) {
            calls.put("move(" + far + ", 1)", x -> x.move(far, 1));
            calls.put("move(1, " + far + ")", x -> x.move(1, far));
            calls.put("move(" + far + ", " + far + ")", x -> x.move(far, far));
        }
        calls.put("move(0, 3)", x -> x.move(0, 3));
        for (int code : new int[] {Due.MIN, -1, 0, 10, 17, 18, 71, 72, Due.MAX}) {
            for (int number : new int[] {Due.MIN, 0, 1, 29, 40, 49, 59, Due.MAX - 2}) {
                String arguments = "(" + code + ", " + number + ", 7, 8)";
                calls.put("submit" + arguments, x -> x.submit(code, number, 7, 8));
                calls.put("submitAndStop" + arguments, x -> x.submitAndStop(code, number, 7, 8));
            }
        }
        return calls;
    }

    private static Map<String, ToIntFunction<ElectedStore>> questionCalls() {
        Map<String, ToIntFunction<ElectedStore>> calls = new LinkedHashMap<>();
        calls.put("leader()", ElectedStore::leader);
        calls.put("pending()", ElectedStore::pending);
        calls.put("faults()", ElectedStore::faults);
        for (int at : new int[] {Due.MIN, -1, 0, 1, 3, 4, 5, 6, Due.MAX}) {
            calls.put("isUp(" + at + ")", x -> x.isUp(at));
            calls.put("isMember(" + at + ")", x -> x.isMember(at));
            calls.put("get(" + at + ")", x -> x.get(at));
            calls.put("canGet(" + at + ")", x -> x.canGet(at));
            for (int other : new int[] {-1, 0, 3, 4, Due.MAX}) {
                String arguments = "(" + at + ", " + other + ")";
                calls.put("local" + arguments, x -> x.local(at, other));
                calls.put("lastNumber" + arguments, x -> x.lastNumber(at, other));
                calls.put("answer" + arguments, x -> x.answer(at, other));
                calls.put("same" + arguments, x -> x.same(at, other));
            }
        }
        return calls;
    }
}
