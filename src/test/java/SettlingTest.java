/** Terms: the settling, point by point. */
public final class SettlingTest {
    private static final int ADD = Due.code(1, 2, 3);
    private static final Due due = new Due("SettlingTest");

    public static void main(String[] args) {
        oneNoLeader();
        oneTheLeaderIsForgotten();
        oneCopiesStay();
        oneNobodyBecomesCurrent();
        oneThePendingCommandStays();
        twoTheLeaderStays();
        twoWithTheQuorumToAnotherGroup();
        twoAfterEveryKindOfCall();
        twoALeaderWhoLeftIsNone();
        threeAOnlyIfACommandIsPending();
        threeAOnlyIfTheHolderIsInTheQuorum();
        threeATheHolderBecomesLeader();
        threeATheCommandIsDone();
        threeAPendingNoMore();
        threeATheOthersAreNeverMoreThanHalf();
        threeBDroppedForEver();
        threeBTheLeastInTheQuorum();
        threeBTheLeastThatIsCurrent();
        threeBNotTheHolder();
        fourCopiesBecomeTheState();
        fourTheyBecomeCurrent();
        fourWhoIsAwayKeepsItsCopy();
        due.end();
    }

    private static void stop(ElectedStore x, int... nodes) {
        for (int node : nodes) {
            due.is("stop(" + node + ")", x.stop(node), 1);
        }
    }

    private static void start(ElectedStore x, int... nodes) {
        for (int node : nodes) {
            due.is("start(" + node + ")", x.start(node), 1);
        }
    }

    /** 0, 1 and 4 are up of five, all current, and 1 leads. */
    private static ElectedStore ledBy1() {
        ElectedStore x = new ElectedStore();
        stop(x, 0);
        start(x, 0);
        stop(x, 2, 3);
        due.is("leader() of 0, 1, 4", x.leader(), 1);
        return x;
    }

    /** The same, but 1 holds a pending command and is down; key 3 is 20. */
    private static ElectedStore heldBy1() {
        ElectedStore x = new ElectedStore();
        x.submit(Due.code(0, 0, 3), 1, 20, 0);
        stop(x, 0);
        start(x, 0);
        stop(x, 2, 3);
        due.is("submitAndStop", x.submitAndStop(ADD, 7, 5, 0), 2);
        return x;
    }

    private static void oneNoLeader() {
        due.sentence("1. If there is no quorum, there is no leader, and that is all.");
        // The leader is up all the while; it is none because the others are not there.
        for (int other : new int[] {0, 4}) {
            ElectedStore x = ledBy1();
            stop(x, other);
            due.is("leader() after stop(" + other + ")", x.leader(), ElectedStore.NO_QUORUM);
            x = ledBy1();
            x.move(other, 2);
            due.is("leader() after move(" + other + ", 2)", x.leader(), ElectedStore.NO_QUORUM);
            due.is("isUp(1)", x.isUp(1), 1);
        }
        ElectedStore x = ledBy1();
        x.move(1, 2);
        due.is("leader() after its own move", x.leader(), ElectedStore.NO_QUORUM);
        x = ledBy1();
        stop(x, 1);
        due.is("leader() after its own stop", x.leader(), ElectedStore.NO_QUORUM);
    }

    private static void oneTheLeaderIsForgotten() {
        due.sentence("1. If there is no quorum, there is no leader, and that is all.");
        ElectedStore x = ledBy1();
        stop(x, 4);
        start(x, 4);
        due.is("leader(): the least is chosen anew, though 1 led before", x.leader(), 0);
        x = ledBy1();
        x.move(4, 1);
        x.move(4, 0);
        due.is("leader(): the same by moving", x.leader(), 0);
    }

    private static void oneCopiesStay() {
        due.sentence("1. If there is no quorum, there is no leader, and that is all.");
        ElectedStore x = new ElectedStore();
        stop(x, 4);
        x.submit(ADD, 1, 5, 0);
        stop(x, 3, 2);
        String behind = Due.copy(x, 4);
        String ahead = Due.copy(x, 0);
        stop(x, 1);
        start(x, 4);
        due.alike("the copy of 4, which is behind and up without a quorum", Due.copy(x, 4), behind);
        due.alike("the copy of 0, which is ahead and up without a quorum", Due.copy(x, 0), ahead);
        due.is("same(0, 4)", x.same(0, 4), 0);
        start(x, 1);
        due.alike("the copy of 4 in the quorum", Due.copy(x, 4), ahead);
    }

    private static void oneNobodyBecomesCurrent() {
        due.sentence("1. If there is no quorum, there is no leader, and that is all.");
        ElectedStore x = new ElectedStore();
        stop(x, 1);
        x.submit(ADD, 1, 5, 0);
        stop(x, 2, 0, 3);
        start(x, 1);
        due.is("leader() of 1, 4", x.leader(), ElectedStore.NO_QUORUM);
        start(x, 3);
        due.is("leader() of 1, 3, 4: 1 came up without a quorum, and is behind", x.leader(), 3);
        // And nobody who is current is so no more.
        x = new ElectedStore();
        stop(x, 4, 3, 2, 1, 0);
        start(x, 2, 3, 4);
        due.is("leader() of 2, 3, 4", x.leader(), 2);
    }

    private static void oneThePendingCommandStays() {
        due.sentence("1. If there is no quorum, there is no leader, and that is all.");
        ElectedStore x = heldBy1();
        stop(x, 0);
        due.is("pending() after stop(0)", x.pending(), 1);
        start(x, 3);
        due.is("pending() after start(3)", x.pending(), 1);
        x.move(2, 1);
        due.is("pending() after a move", x.pending(), 1);
        stop(x, 4);
        start(x, 1);
        due.is("pending() with the holder up: 1 and 3 are no quorum", x.pending(), 1);
        due.is("local(1, 3): not done", x.local(1, 3), 20);
        stop(x, 1);
        start(x, 1, 4);
        due.is("pending() of 1, 3, 4", x.pending(), 0);
        due.is("get(3)", x.get(3), 25);
    }

    private static void twoTheLeaderStays() {
        due.sentence("2. If there was a leader, and it is in the quorum still, it stays leader.");
        for (int leader = 0; leader < 5; leader++) {
            // Whoever is less is taken out and in again, and so is current, but passed by.
            ElectedStore x = new ElectedStore();
            for (int node = 0; node < leader; node++) {
                x.member(node, false);
            }
            for (int node = 0; node < leader; node++) {
                x.member(node, true);
            }
            due.is("leader()", x.leader(), leader);
            for (int other = 0; other < 5; other++) {
                if (other != leader) {
                    stop(x, other);
                    due.is("leader() without " + other, x.leader(), leader);
                    start(x, other);
                    due.is("leader() with " + other + " again", x.leader(), leader);
                }
            }
            stop(x, leader);
            due.is("leader() without it", x.leader(), leader == 0 ? 1 : 0);
        }
    }

    private static void twoWithTheQuorumToAnotherGroup() {
        due.sentence("2. If there was a leader, and it is in the quorum still, it stays leader.");
        // Of three members, 2 is in group 1; when the leader goes there too, it is in the new quorum at once.
        ElectedStore x = new ElectedStore();
        x.member(3, false);
        x.member(4, false);
        x.member(0, false);
        x.member(0, true);
        due.is("leader() of 0, 1, 2", x.leader(), 1);
        x.move(0, 1);
        due.is("leader() of 1, 2", x.leader(), 1);
        x.move(1, 1);
        due.is("leader() of 0, 1: 0 is less and current, but 1 stays", x.leader(), 1);
        due.is("canGet(0)", x.canGet(0), 0);
        // The only member goes wherever it likes.
        x = new ElectedStore();
        for (int node = 0; node < 4; node++) {
            x.member(node, false);
        }
        for (int group = 2; group >= 0; group--) {
            x.move(4, group);
            due.is("leader() in group " + group, x.leader(), 4);
        }
    }

    private static void twoAfterEveryKindOfCall() {
        due.sentence("2. If there was a leader, and it is in the quorum still, it stays leader.");
        ElectedStore x = new ElectedStore();
        stop(x, 0);
        start(x, 0);
        x.submit(ADD, 1, 1, 1);
        due.is("leader() after submit", x.leader(), 1);
        x.submit(ADD, 1, 1, 1);
        due.is("leader() after the same", x.leader(), 1);
        x.member(4, false);
        due.is("leader() after a member went", x.leader(), 1);
        x.member(4, true);
        due.is("leader() after a member came", x.leader(), 1);
        x.move(4, 2);
        due.is("leader() after a move", x.leader(), 1);
        x.move(1, 0);
        due.is("leader() after its move to where it is", x.leader(), 1);
        x.start(1);
        due.is("leader() after its start while it is up", x.leader(), 1);
        x.member(1, true);
        due.is("leader() after it is taken in while it is one", x.leader(), 1);
        x.compact();
        due.is("leader() after compact", x.leader(), 1);
    }

    private static void twoALeaderWhoLeftIsNone() {
        due.sentence("THE LEADER is one of the nodes in the quorum, or there is none");
        ElectedStore x = new ElectedStore();
        stop(x, 0);
        due.is("leader() after it went down", x.leader(), 1);
        start(x, 0);
        due.is("leader() after it came back", x.leader(), 1);
        x.move(1, 1);
        due.is("leader() after it went to another group", x.leader(), 0);
        x.move(1, 0);
        due.is("leader() after it came back", x.leader(), 0);
        x.member(0, false);
        due.is("leader() after it was taken out", x.leader(), 1);
        x.member(0, true);
        due.is("leader() after it was taken in", x.leader(), 1);
    }

    private static void threeAOnlyIfACommandIsPending() {
        due.sentence("a. If there is a pending command");
        ElectedStore x = ledBy1();
        stop(x, 1);
        start(x, 1);
        due.is("leader(): 1 went without a command, so the least is chosen", x.leader(), 0);
        due.is("get(3)", x.get(3), 0);
        due.is("lastNumber(1, 2)", x.lastNumber(1, 2), 0);
        x = heldBy1();
        start(x, 1);
        due.is("leader(): 1 went with one", x.leader(), 1);
    }

    private static void threeAOnlyIfTheHolderIsInTheQuorum() {
        due.sentence("and its holder is in the quorum");
        ElectedStore x = heldBy1();
        start(x, 2);
        due.is("leader() of 0, 2, 4: the holder is down", x.leader(), 0);
        due.is("pending()", x.pending(), 0);
        due.is("get(3)", x.get(3), 20);
        x = heldBy1();
        x.move(1, 2);
        start(x, 1);
        due.is("leader() of 0, 4", x.leader(), ElectedStore.NO_QUORUM);
        start(x, 3);
        due.is("leader() of 0, 3, 4: the holder is up in another group", x.leader(), 0);
        due.is("get(3)", x.get(3), 20);
        // 'No member' can't be: a holder was a member, and without a quorum nobody is taken out.
    }

    private static void threeATheHolderBecomesLeader() {
        due.sentence("the holder becomes leader (a step)");
        ElectedStore x = heldBy1();
        start(x, 1);
        due.is("leader() of 0, 1, 4: 0 is less and current, but 1 holds", x.leader(), 1);
        x = heldBy1();
        stop(x, 4);
        start(x, 1);
        due.is("leader() of 0, 1", x.leader(), ElectedStore.NO_QUORUM);
        start(x, 2);
        due.is("leader() of 0, 1, 2: the third one makes the quorum", x.leader(), 1);
        x = heldBy1();
        x.move(1, 1);
        start(x, 1);
        x.move(4, 1);
        x.move(0, 1);
        due.is("leader() of 0, 1, 4 in group 1", x.leader(), 1);
        due.is("get(3)", x.get(3), 25);
    }

    private static void threeATheCommandIsDone() {
        due.sentence("the pending command is done (a step)");
        for (int code = 0; code < 72; code++) {
            ElectedStore x = new ElectedStore();
            for (int key = 0; key < 6; key++) {
                x.submit(Due.code(0, 3, key), 1 + key, 10 + key, 0);
            }
            ElectedStore y = new ElectedStore();
            for (int key = 0; key < 6; key++) {
                y.submit(Due.code(0, 3, key), 1 + key, 10 + key, 0);
            }
            int key = code % 6;
            stop(x, 3, 4);
            due.is("submitAndStop(" + code + ", ..)", x.submitAndStop(code, 40, 10 + key, Due.MIN), 2);
            start(x, 0, 3, 4);
            due.is("submit(" + code + ", ..)", y.submit(code, 40, 10 + key, Due.MIN), 0);
            due.alike("the state, as if submitted", Due.seen(x), Due.seen(y));
        }
        ElectedStore x = new ElectedStore();
        x.submit(Due.code(0, 2, 3), 1, Due.MAX, 0);
        stop(x, 3, 4);
        x.submitAndStop(ADD, Due.MAX, 1, 0);
        start(x, 0);
        due.is("get(3), wrapped", x.get(3), Due.MIN);
        due.is("answer(0, 2)", x.answer(0, 2), Due.MAX);
        due.is("lastNumber(0, 2)", x.lastNumber(0, 2), Due.MAX);
    }

    private static void threeAPendingNoMore() {
        due.sentence("and is pending no more");
        ElectedStore x = heldBy1();
        start(x, 1);
        due.is("pending()", x.pending(), 0);
        due.is("get(3)", x.get(3), 25);
        stop(x, 1);
        due.is("pending() after the next stop", x.pending(), 0);
        start(x, 1);
        due.is("get(3): it is not done twice", x.get(3), 25);
        due.is("leader(): 1 holds nothing now", x.leader(), 0);
    }

    private static void threeATheOthersAreNeverMoreThanHalf() {
        // No run of calls shows this clause false. A command stays pending only without a quorum, and member is refused
        // then; so a quorum with the holder comes by one node that starts or moves, and is one more than what was not more
        // than half: without the holder, or without any one node, it is not more than half either. ReachTest goes through
        // every state to see that. What can be seen: the clause is true at every number of members.
        due.sentence("and without it the others in the quorum are not more than half of the members");
        for (int count = 1; count <= 5; count++) {
            for (int last = 0; last < count; last++) {
                ElectedStore x = new ElectedStore();
                for (int node = count; node < 5; node++) {
                    x.member(node, false);
                }
                int up = count;
                while (up > count / 2 + 1) {
                    up--;
                    stop(x, up);
                }
                due.is("submitAndStop", x.submitAndStop(ADD, 1, 5, 0), 2);
                if (last > 0 && last < up) {
                    stop(x, last);
                    start(x, 0);
                    due.is("pending() of " + count, x.pending(), 1);
                    start(x, last);
                } else {
                    start(x, 0);
                }
                due.is("pending() of " + count, x.pending(), 0);
                due.is("leader() of " + count, x.leader(), 0);
                due.is("get(3) of " + count, x.get(3), 5);
            }
        }
    }

    private static void threeBDroppedForEver() {
        due.sentence("it is dropped for ever");
        ElectedStore x = heldBy1();
        start(x, 2);
        due.is("pending()", x.pending(), 0);
        start(x, 1);
        due.is("get(3) with the holder back", x.get(3), 20);
        due.is("local(1, 3)", x.local(1, 3), 20);
        stop(x, 0, 2);
        due.is("leader() of 1, 4", x.leader(), ElectedStore.NO_QUORUM);
        start(x, 3);
        due.is("get(3) with the holder needed", x.get(3), 20);
        due.is("pending()", x.pending(), 0);
        due.is("lastNumber(1, 2)", x.lastNumber(1, 2), 0);
        due.is("its number is free", x.submit(ADD, 7, 1, 0), 0);
        due.is("get(3)", x.get(3), 21);

        x = new ElectedStore();
        due.is("dropped at once", x.submitAndStop(ADD, 1, 5, 0), 3);
        stop(x, 1, 2);
        due.is("leader() of 3, 4", x.leader(), ElectedStore.NO_QUORUM);
        start(x, 0);
        due.is("get(3) with the holder needed", x.get(3), 0);
        due.is("lastNumber(0, 2)", x.lastNumber(0, 2), 0);
    }

    private static void threeBTheLeastInTheQuorum() {
        due.sentence("the least node in the quorum that is current");
        ElectedStore x = new ElectedStore();
        stop(x, 1, 0);
        due.is("leader(): 1 is current, but down", x.leader(), 2);
        x = new ElectedStore();
        x.move(1, 2);
        stop(x, 0);
        due.is("leader(): 1 is current, but in another group", x.leader(), 2);
        x = new ElectedStore();
        x.member(1, false);
        stop(x, 0);
        // One that is no member is never current: the step that took it out made it so. So no run of calls can tell which
        // of the two kept it from leading.
        due.is("leader(): 1 is no member", x.leader(), 2);
        x = new ElectedStore();
        stop(x, 0);
        due.is("leader() of 1, 2, 3, 4", x.leader(), 1);
        stop(x, 1);
        due.is("leader() of 2, 3, 4", x.leader(), 2);
        x = new ElectedStore();
        x.move(0, 1);
        x.move(1, 1);
        due.is("leader() of 2, 3, 4 in group 0", x.leader(), 2);
        x.move(2, 1);
        due.is("leader() of 0, 1, 2 in group 1: 2 led and leads", x.leader(), 2);
    }

    private static void threeBTheLeastThatIsCurrent() {
        due.sentence("the least node in the quorum that is current");
        // Every node but the greatest in turn is the least in the quorum and the only one that is not current.
        for (int behind = 0; behind < 3; behind++) {
            ElectedStore x = new ElectedStore();
            stop(x, behind);
            x.submit(ADD, 1, 5, 0);
            for (int node = 2; node >= 0; node--) {
                if (node != behind) {
                    stop(x, node);
                }
            }
            due.is("leader() of 3, 4", x.leader(), ElectedStore.NO_QUORUM);
            start(x, behind);
            due.is("leader() of " + behind + ", 3, 4", x.leader(), 3);
        }
        // Two that are behind, and the greatest alone is not.
        ElectedStore x = new ElectedStore();
        stop(x, 0, 1);
        x.submit(ADD, 1, 5, 0);
        stop(x, 2, 3);
        start(x, 0, 1);
        due.is("leader() of 0, 1, 4", x.leader(), 4);
        due.is("get(3)", x.get(3), 5);
    }

    private static void threeBNotTheHolder() {
        // No run of calls shows this clause on its own: by 3a a command is dropped only if its holder is not in the quorum
        // (threeATheOthersAreNeverMoreThanHalf says why), and then it can't be the least node in the quorum anyhow.
        due.sentence("and is not the holder of the command that was dropped, becomes leader (a step)");
        ElectedStore x = new ElectedStore();
        due.is("submitAndStop", x.submitAndStop(ADD, 1, 5, 0), 3);
        due.is("leader(): not 0", x.leader(), 1);
        due.is("submitAndStop", x.submitAndStop(ADD, 1, 5, 0), 3);
        due.is("leader(): not 1", x.leader(), 2);
        start(x, 0, 1);
        stop(x, 2);
        due.is("leader(): 0 held once, but may lead now", x.leader(), 0);
        x = heldBy1();
        x.move(1, 1);
        start(x, 1, 2);
        due.is("leader() of 0, 2, 4", x.leader(), 0);
    }

    private static void fourCopiesBecomeTheState() {
        due.sentence("4. All nodes in the quorum become current, and their copies become the state.");
        ElectedStore x = new ElectedStore();
        x.move(4, 1);
        stop(x, 3);
        States.fill(x);
        String state = Due.copy(x, 0);
        due.holds("3 and 4 are behind", !Due.copy(x, 3).equals(state) && !Due.copy(x, 4).equals(state));
        due.alike("the copies of the quorum", Due.copy(x, 1) + Due.copy(x, 2), state + state);
        start(x, 3);
        due.alike("the copy of 3, by start", Due.copy(x, 3), state);
        x.move(4, 0);
        due.alike("the copy of 4, by move", Due.copy(x, 4), state);

        x = new ElectedStore();
        x.member(2, false);
        States.fill(x);
        x.member(2, true);
        due.alike("the copy of 2, by member", Due.copy(x, 2), state);

        // One call brings a quorum back, and two nodes behind catch up by it.
        x = new ElectedStore();
        stop(x, 3, 4);
        States.fill(x);
        stop(x, 0, 1);
        start(x, 3);
        due.holds("3 and 2 are no quorum", !Due.copy(x, 3).equals(state));
        start(x, 4);
        due.alike("the copies of 3 and 4", Due.copy(x, 3) + Due.copy(x, 4), state + state);
        due.is("leader()", x.leader(), 2);

        // A quorum that goes over to another group takes those along who were there.
        x = new ElectedStore();
        x.member(3, false);
        x.member(4, false);
        x.move(2, 2);
        States.fill(x);
        x.move(1, 2);
        due.alike("the copy of 2", Due.copy(x, 2), state);
    }

    private static void fourTheyBecomeCurrent() {
        due.sentence("4. All nodes in the quorum become current, and their copies become the state.");
        ElectedStore x = new ElectedStore();
        stop(x, 1);
        x.submit(ADD, 1, 5, 0);
        start(x, 1);
        stop(x, 0);
        due.is("leader(): 1 was behind and caught up", x.leader(), 1);
        x = new ElectedStore();
        x.move(1, 1);
        x.submit(ADD, 1, 5, 0);
        x.move(1, 0);
        stop(x, 0);
        due.is("leader(): the same by moving", x.leader(), 1);
        // Current while it was in the quorum, and still so while it is away, as long as there is no step.
        x = new ElectedStore();
        stop(x, 1);
        x.submit(ADD, 1, 5, 0);
        start(x, 1);
        stop(x, 1, 2, 0);
        start(x, 1);
        due.is("leader() of 1, 3, 4", x.leader(), 1);
    }

    private static void fourWhoIsAwayKeepsItsCopy() {
        due.sentence("4. All nodes in the quorum become current, and their copies become the state.");
        ElectedStore x = new ElectedStore();
        x.submit(ADD, 1, 5, 0);
        stop(x, 4);
        x.submit(ADD, 2, 5, 0);
        x.move(3, 1);
        x.submit(ADD, 3, 5, 0);
        String four = Due.copy(x, 4);
        String three = Due.copy(x, 3);
        x.move(4, 1);
        start(x, 4);
        due.alike("4 meets 3, which is ahead of it, without a quorum", Due.copy(x, 4), four);
        due.alike("and 3 keeps its own", Due.copy(x, 3), three);
        due.is("local(4, 3)", x.local(4, 3), 5);
        due.is("local(3, 3)", x.local(3, 3), 10);
        due.is("local(0, 3)", x.local(0, 3), 15);
        due.is("lastNumber(4, 2), answer(4, 2)", x.lastNumber(4, 2) * 100L + x.answer(4, 2), 100);
        due.is("lastNumber(3, 2), answer(3, 2)", x.lastNumber(3, 2) * 100L + x.answer(3, 2), 205);
        due.is("lastNumber(0, 2), answer(0, 2)", x.lastNumber(0, 2) * 100L + x.answer(0, 2), 310);
        x.submit(ADD, 4, 5, 0);
        x.stop(3);
        x.compact();
        due.alike("3 goes down", Due.copy(x, 3), three);
        x.move(3, 0);
        due.alike("3 is moved while it is down", Due.copy(x, 3), three);
        start(x, 3);
        due.alike("3 is in the quorum again", Due.copy(x, 3), Due.copy(x, 0));
        due.is("local(4, 3)", x.local(4, 3), 5);
        // One that is no member, though up and in the group.
        x = new ElectedStore();
        x.submit(ADD, 1, 5, 0);
        x.member(4, false);
        x.submit(ADD, 2, 5, 0);
        stop(x, 4);
        start(x, 4);
        x.move(4, 1);
        x.move(4, 0);
        due.is("local(4, 3): no member", x.local(4, 3), 5);
        x.member(4, true);
        due.is("local(4, 3): a member", x.local(4, 3), 10);
    }
}
