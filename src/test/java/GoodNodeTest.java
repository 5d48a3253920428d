import java.util.Map;
import java.util.function.Consumer;

/** 'a node is good if it is 0 .. 4': every method that takes a node, at both edges and far beyond them, in every kind of state. */
public final class GoodNodeTest {
    private static final Due due = new Due("GoodNodeTest");

    public static void main(String[] args) {
        eachOnItsOwn();
        goodNodes();
        for (Map.Entry<String, Consumer<ElectedStore>> state : States.all().entrySet()) {
            for (int node : Due.outside(5)) {
                String where = " with node " + node + " in state '" + state.getKey() + "'";
                actions(state.getValue(), node, where);
                questions(state.getValue(), node, where);
                sameOf(state.getValue(), node, where);
            }
        }
        due.end();
    }

    private static void eachOnItsOwn() {
        due.sentence("There are NODES 0 .. 4; each is UP or DOWN, is in a GROUP 0 .. 2, and is a MEMBER or not.");
        for (int node = 0; node <= 4; node++) {
            for (int group = 0; group <= 2; group++) {
                for (int up = 0; up <= 1; up++) {
                    for (int member = 0; member <= 1; member++) {
                        ElectedStore x = new ElectedStore();
                        x.member(node, member == 1);
                        x.move(node, group);
                        due.is("stop(" + node + ")", x.stop(node), 1);
                        if (up == 1) {
                            due.is("start(" + node + ")", x.start(node), 1);
                        }
                        String where = " of " + node + ", in group " + group + ", up " + up + ", member " + member;
                        for (int other = 0; other <= 4; other++) {
                            due.is("isUp(" + other + ")" + where, x.isUp(other), other == node ? up : 1);
                            due.is("isMember(" + other + ")" + where, x.isMember(other), other == node ? member : 1);
                            due.is("move(" + other + ", ..)" + where, x.move(other, 2), other == node ? group : 0);
                        }
                    }
                }
            }
        }
    }

    private static void goodNodes() {
        due.sentence("a node is good if it is 0 .. 4");
        for (int node = 0; node <= 4; node++) {
            ElectedStore x = States.at(States::fill);
            due.is("isUp(" + node + ")", x.isUp(node), 1);
            due.is("isMember(" + node + ")", x.isMember(node), 1);
            due.is("local(" + node + ", 5)", x.local(node, 5), 205);
            due.is("lastNumber(" + node + ", 3)", x.lastNumber(node, 3), 33);
            due.is("answer(" + node + ", 3)", x.answer(node, 3), 203);
            due.is("same(" + node + ", 4)", x.same(node, 4), 1);
            due.is("same(4, " + node + ")", x.same(4, node), 1);
            due.is("move(" + node + ", 2)", x.move(node, 2), 0);
            due.is("move(" + node + ", 0)", x.move(node, 0), 2);
            due.is("member(" + node + ", false)", x.member(node, false), 1);
            due.is("member(" + node + ", true)", x.member(node, true), 1);
            due.is("stop(" + node + ")", x.stop(node), 1);
            due.is("start(" + node + ")", x.start(node), 1);
        }
    }

    private static void actions(Consumer<ElectedStore> way, int node, String where) {
        ElectedStore x = States.at(way);
        String before = Due.seen(x);
        due.sentence("node is not good: BAD. Else answers 1 if it was up, else 0.");
        due.is("stop" + where, x.stop(node), ElectedStore.BAD);
        due.sentence("node is not good: BAD. Else answers 1 if it was down, else 0.");
        due.is("start" + where, x.start(node), ElectedStore.BAD);
        due.sentence("node is not good, or group is not 0 .. 2: BAD");
        for (int group = -1; group <= 3; group++) {
            due.is("move to " + group + where, x.move(node, group), ElectedStore.BAD);
        }
        due.sentence("node is not good: BAD; there is no quorum: NO_QUORUM");
        due.is("member true" + where, x.member(node, true), ElectedStore.BAD);
        due.is("member false" + where, x.member(node, false), ElectedStore.BAD);
        due.sentence("A refused call (an answer below 0) changes nothing.");
        due.alike("questions after refusals" + where, Due.seen(x), before);
    }

    private static void questions(Consumer<ElectedStore> way, int node, String where) {
        ElectedStore x = States.at(way);
        due.sentence("1 if a node is up, else 0. node is not good: BAD.");
        due.is("isUp" + where, x.isUp(node), ElectedStore.BAD);
        due.sentence("1 if a node is a member, else 0. node is not good: BAD.");
        due.is("isMember" + where, x.isMember(node), ElectedStore.BAD);
        due.sentence("node is not good, or key is not 0 .. 5: 0.");
        for (int key = -1; key <= 6; key++) {
            due.is("local of key " + key + where, x.local(node, key), 0);
        }
        due.sentence("node is not good, or session is not 0 .. 3: BAD.");
        for (int session = -1; session <= 4; session++) {
            due.is("lastNumber of session " + session + where, x.lastNumber(node, session), ElectedStore.BAD);
        }
        due.sentence("0 if node is not good, or session is not 0 .. 3.");
        for (int session = -1; session <= 4; session++) {
            due.is("answer of session " + session + where, x.answer(node, session), 0);
        }
    }

    private static void sameOf(Consumer<ElectedStore> way, int node, String where) {
        ElectedStore x = States.at(way);
        due.sentence("node or other is not good: BAD.");
        for (int good = 0; good <= 4; good++) {
            due.is("same first" + where, x.same(node, good), ElectedStore.BAD);
            due.is("same second" + where, x.same(good, node), ElectedStore.BAD);
        }
        due.is("same with itself" + where, x.same(node, node), ElectedStore.BAD);
        for (int bad : Due.outside(5)) {
            due.is("same with another" + where, x.same(node, bad), ElectedStore.BAD);
        }
    }
}
