/** Promises 5 and 7: member, isMember. Pairs of refusals are in OrderTest. */
public final class MemberTest {
    private static final Due due = new Due("MemberTest");

    public static void main(String[] args) {
        outAndIn();
        answersOfEveryNode();
        wrongNodes();
        withoutAQuorum();
        alreadySo();
        theOnlyMember();
        splitByTakingOut();
        splitByTakingIn();
        splitAtEveryNumberOfMembers();
        everyGathering();
        theQuorumShrinks();
        theLeaderIsTakenOut();
        aNewMemberCatchesUp();
        itIsAStep();
        noMemberIsLed();
        isMember();
        due.end();
    }

    private static void outAndIn() {
        due.sentence("A node becomes a member (flag true), or is none any more.");
        for (int node = 0; node < 5; node++) {
            for (int up = 0; up <= 1; up++) {
                for (int group = 0; group < 3; group++) {
                    ElectedStore x = new ElectedStore();
                    x.move(node, group);
                    if (up == 0) {
                        x.stop(node);
                    }
                    String where = " of " + node + ", up " + up + ", in group " + group;
                    due.is("member(false)" + where, x.member(node, false), 1);
                    due.is("isMember" + where, x.isMember(node), 0);
                    due.is("member(true)" + where, x.member(node, true), 1);
                    due.is("isMember" + where, x.isMember(node), 1);
                    due.is("isUp" + where, x.isUp(node), up);
                    due.is("move" + where, x.move(node, 0), group);
                }
            }
        }
    }

    private static void answersOfEveryNode() {
        due.sentence("Else that is done (a step; if the leader is no member any more, there is no leader then), there is a settling, and the answer is 1.");
        for (int node = 0; node < 5; node++) {
            ElectedStore x = new ElectedStore();
            due.is("member(node, false)", x.member(node, false), 1);
            for (int other = 0; other < 5; other++) {
                due.is("isMember", x.isMember(other), other == node ? 0 : 1);
                due.is("isUp", x.isUp(other), 1);
            }
            due.is("member(node, true)", x.member(node, true), 1);
            due.is("isMember", x.isMember(node), 1);
        }
    }

    private static void wrongNodes() {
        due.sentence("node is not good: BAD");
        for (int node : Due.outside(5)) {
            ElectedStore x = new ElectedStore();
            x.member(3, false);
            String before = Due.seen(x);
            due.is("member(" + node + ", true)", x.member(node, true), ElectedStore.BAD);
            due.is("member(" + node + ", false)", x.member(node, false), ElectedStore.BAD);
            due.is("isMember(" + node + ")", x.isMember(node), ElectedStore.BAD);
            due.alike("questions after them", Due.seen(x), before);
        }
    }

    private static void withoutAQuorum() {
        due.sentence("there is no quorum: NO_QUORUM");
        ElectedStore x = new ElectedStore();
        x.stop(0);
        x.stop(1);
        x.stop(2);
        String before = Due.seen(x);
        due.is("NO_QUORUM comes before 0", x.member(3, true), ElectedStore.NO_QUORUM);
        due.is("member(0, false)", x.member(0, false), ElectedStore.NO_QUORUM);
        due.holds("refused calls change nothing", Due.seen(x).equals(before));
    }

    private static void alreadySo() {
        due.sentence("it is so already: 0 is the answer, and nothing happens");
        ElectedStore x = new ElectedStore();
        x.member(4, false);
        String before = Due.seen(x);
        due.is("member(4, false) again", x.member(4, false), 0);
        due.is("member(1, true)", x.member(1, true), 0);
        due.holds("nothing happens", Due.seen(x).equals(before));
        // No step either: 2 stays current and may lead when it comes back.
        ElectedStore y = new ElectedStore();
        y.stop(2);
        due.is("member(3, true)", y.member(3, true), 0);
        y.stop(1);
        y.stop(0);
        y.start(2);
        due.is("leader() of 2, 3, 4", y.leader(), 2);
    }

    private static ElectedStore onlyMember(int node) {
        ElectedStore x = new ElectedStore();
        for (int other = 4; other >= 0; other--) {
            if (other != node) {
                due.is("member(other, false)", x.member(other, false), 1);
            }
        }
        return x;
    }

    private static void theOnlyMember() {
        due.sentence("it is the only member: LAST");
        for (int node = 0; node < 5; node++) {
            ElectedStore x = onlyMember(node);
            due.is("leader()", x.leader(), node);
            String before = Due.seen(x);
            // Were this a step, nobody could see it: none but members are current (ReachTest), and this one stays so.
            due.is("LAST, before SPLIT", x.member(node, false), ElectedStore.LAST);
            due.is("0 comes before LAST", x.member(node, true), 0);
            due.holds("refused calls change nothing", Due.seen(x).equals(before));
            x.move(node, 1);
            due.is("leader() after it moved alone", x.leader(), node);
            x.stop(node);
            due.is("leader() after it went down", x.leader(), ElectedStore.NO_QUORUM);
            due.is("NO_QUORUM comes before LAST", x.member(node, false), ElectedStore.NO_QUORUM);
        }
    }

    private static void splitByTakingOut() {
        due.sentence("with the members that there would be, the up ones in the group of the quorum would not be more than half of them: SPLIT");
        ElectedStore x = new ElectedStore();
        x.stop(3);
        x.move(4, 1);
        String before = Due.seen(x);
        for (int node = 0; node < 3; node++) {
            due.is("two of four would be left", x.member(node, false), ElectedStore.SPLIT);
        }
        due.holds("refused calls change nothing", Due.seen(x).equals(before));
        due.is("three of four are left", x.member(3, false), 1);
        due.is("two of three are left", x.member(2, false), 1);
        due.is("one of two would be left", x.member(0, false), ElectedStore.SPLIT);
        due.is("two of two are left", x.member(4, false), 1);
        due.is("one of one is left", x.member(0, false), 1);
        due.is("leader()", x.leader(), 1);
    }

    private static void splitByTakingIn() {
        due.sentence("with the members that there would be, the up ones in the group of the quorum would not be more than half of them: SPLIT");
        ElectedStore x = onlyMember(2);
        x.stop(0);
        x.move(1, 1);
        String before = Due.seen(x);
        due.is("one of two: it is down", x.member(0, true), ElectedStore.SPLIT);
        due.is("one of two: it is in another group", x.member(1, true), ElectedStore.SPLIT);
        due.holds("refused calls change nothing", Due.seen(x).equals(before));
        due.is("two of two", x.member(3, true), 1);
        due.is("two of three", x.member(0, true), 1);
        due.is("two of four", x.member(1, true), ElectedStore.SPLIT);
        due.is("isMember(1)", x.isMember(1), 0);
        due.is("three of four", x.member(4, true), 1);
        due.is("three of five", x.member(1, true), 1);
    }

    /** The members are the nodes below count; those from 'up' on are down, or in another group. */
    private static ElectedStore gathered(int count, int up, boolean down) {
        ElectedStore x = new ElectedStore();
        for (int node = count; node < 5; node++) {
            x.member(node, false);
        }
        for (int node = up; node < count; node++) {
            if (down) {
                x.stop(node);
            } else {
                x.move(node, 1 + node % 2);
            }
        }
        return x;
    }

    private static void splitAtEveryNumberOfMembers() {
        due.sentence("with the members that there would be, the up ones in the group of the quorum would not be more than half of them: SPLIT");
        for (boolean down : new boolean[] {true, false}) {
            due.is("2 of 2 up, one of them out: 1 of 1", gathered(2, 2, down).member(0, false), 1);
            due.is("2 of 3 up, one of them out: 1 of 2, half", gathered(3, 2, down).member(0, false), ElectedStore.SPLIT);
            due.is("2 of 3 up, the other out: 2 of 2", gathered(3, 2, down).member(2, false), 1);
            due.is("3 of 3 up, one of them out: 2 of 2", gathered(3, 3, down).member(0, false), 1);
            due.is("3 of 4 up, one of them out: 2 of 3", gathered(4, 3, down).member(0, false), 1);
            due.is("3 of 4 up, the other out: 3 of 3", gathered(4, 3, down).member(3, false), 1);
            due.is("3 of 5 up, one of them out: 2 of 4, half", gathered(5, 3, down).member(0, false), ElectedStore.SPLIT);
            due.is("3 of 5 up, another out: 3 of 4", gathered(5, 3, down).member(4, false), 1);
            due.is("4 of 5 up, one of them out: 3 of 4", gathered(5, 4, down).member(0, false), 1);
            for (int count = 1; count < 5; count++) {
                for (int up = count / 2 + 1; up <= count; up++) {
                    ElectedStore x = gathered(count, up, down);
                    due.is("one that is there in: " + (up + 1) + " of " + (count + 1), x.member(4, true), 1);
                    x = gathered(count, up, down);
                    if (down) {
                        x.stop(4);
                    } else {
                        x.move(4, 2);
                    }
                    // One of two, and two of four, are exactly half.
                    int want = 2 * up > count + 1 ? 1 : ElectedStore.SPLIT;
                    due.is("one that is not there in: " + up + " of " + (count + 1), x.member(4, true), want);
                }
            }
        }
        // 'In the group of the quorum': whoever is up elsewhere is no help. That another group would be more than half while
        // this one would not be is nothing that a run of calls can show: one node more or less does not make up for it.
        ElectedStore x = onlyMember(0);
        x.move(1, 1);
        x.move(2, 1);
        due.is("one of two in group 0", x.member(1, true), ElectedStore.SPLIT);
        due.is("one of two in group 0", x.member(2, true), ElectedStore.SPLIT);
    }

    /** Every set of members, every set of nodes that are up, two groups; each node taken in and out. */
    private static void everyGathering() {
        due.sentence("with the members that there would be, the up ones in the group of the quorum would not be more than half of them: SPLIT");
        for (int members = 1; members < 32; members++) {
            for (int ups = 0; ups < 32; ups++) {
                for (int place = 0; place < 32; place++) {
                    for (int call = 0; call < 10; call++) {
                        gathering(members, ups, place, call / 2, call % 2 == 1);
                    }
                }
            }
        }
    }

    private static void gathering(int members, int ups, int place, int node, boolean flag) {
        ElectedStore x = new ElectedStore();
        for (int each = 0; each < 5; each++) {
            if ((members >> each & 1) == 0) {
                x.member(each, false);
            }
        }
        for (int each = 0; each < 5; each++) {
            if ((ups >> each & 1) == 0) {
                x.stop(each);
            }
            x.move(each, 2 * (place >> each & 1));
        }
        int would = flag ? members | 1 << node : members & ~(1 << node);
        int want = answerDue(members, ups, place, would);
        String where = "members " + members + ", up " + ups + ", place " + place;
        due.is(where + ": member(" + node + ", " + flag + ")", x.member(node, flag), want);
        int after = want == 1 ? would : members;
        for (int each = 0; each < 5; each++) {
            due.is(where + ": isMember(" + each + ") after it", x.isMember(each), after >> each & 1);
        }
    }

    private static int answerDue(int members, int ups, int place, int would) {
        boolean inPlace = Integer.bitCount(members & ups & place) > Integer.bitCount(members) / 2.0;
        boolean elsewhere = Integer.bitCount(members & ups & ~place) > Integer.bitCount(members) / 2.0;
        if (!inPlace && !elsewhere) {
            return ElectedStore.NO_QUORUM;
        }
        int there = inPlace ? place : ~place;
        if (would == members) {
            return 0;
        }
        if (would == 0) {
            return ElectedStore.LAST;
        }
        return Integer.bitCount(would & ups & there) > Integer.bitCount(would) / 2.0 ? 1 : ElectedStore.SPLIT;
    }

    private static void theQuorumShrinks() {
        due.sentence("THE QUORUM is there if the up members in some group are more than half of all members");
        ElectedStore x = new ElectedStore();
        x.member(4, false);
        x.stop(3);
        due.is("three of four", x.canGet(0), 0);
        x.stop(2);
        due.is("two of four are not more than half", x.canGet(0), ElectedStore.NO_QUORUM);
        due.is("leader()", x.leader(), ElectedStore.NO_QUORUM);
        x.start(2);
        x.member(3, false);
        x.stop(2);
        due.is("two of three", x.canGet(0), 0);
        x.stop(1);
        due.is("one of three, though two that are none are up", x.canGet(0), ElectedStore.NO_QUORUM);
    }

    private static void theLeaderIsTakenOut() {
        due.sentence("if the leader is no member any more, there is no leader then");
        ElectedStore x = new ElectedStore();
        due.is("member(0, false)", x.member(0, false), 1);
        due.is("leader()", x.leader(), 1);
        due.is("member(2, false)", x.member(2, false), 1);
        due.is("leader() stays", x.leader(), 1);
        due.is("member(0, true)", x.member(0, true), 1);
        due.is("leader() stays", x.leader(), 1);
        due.is("member(4, false)", x.member(4, false), 1);
        due.is("leader() stays, though 0 is less and current", x.leader(), 1);
        due.is("member(4, true)", x.member(4, true), 1);
        due.is("leader() stays, though 0 is less and current", x.leader(), 1);
        due.is("member(1, false)", x.member(1, false), 1);
        due.is("leader()", x.leader(), 0);
    }

    private static void aNewMemberCatchesUp() {
        due.sentence("there is a settling, and the answer is 1");
        ElectedStore x = new ElectedStore();
        x.member(3, false);
        x.submit(Due.code(0, 0, 1), 1, 5, 0);
        due.is("local(3, 1): it is no member", x.local(3, 1), 0);
        x.stop(3);
        x.start(3);
        due.is("local(3, 1): still none", x.local(3, 1), 0);
        x.member(3, true);
        due.is("local(3, 1)", x.local(3, 1), 5);
        x.member(3, false);
        x.submit(Due.code(0, 0, 1), 2, 6, 0);
        x.stop(3);
        x.member(3, true);
        due.is("local(3, 1): a member, but down", x.local(3, 1), 5);
        x.start(3);
        due.is("local(3, 1): up again", x.local(3, 1), 6);
    }

    private static void itIsAStep() {
        due.sentence("Else that is done (a step;");
        // Whether 1 is down during the step decides whether it may lead when it comes back.
        ElectedStore x = new ElectedStore();
        x.member(4, false);
        x.stop(1);
        x.stop(0);
        due.is("leader() of 2, 3", x.leader(), ElectedStore.NO_QUORUM);
        x.start(1);
        due.is("leader() of 1, 2, 3: 1 was up when 4 was taken out", x.leader(), 1);

        x = new ElectedStore();
        x.stop(1);
        x.member(4, false);
        x.stop(0);
        x.start(1);
        due.is("leader() of 1, 2, 3: 1 was down when 4 was taken out", x.leader(), 2);

        x = new ElectedStore();
        x.member(4, false);
        x.member(4, true);
        x.stop(1);
        x.stop(2);
        x.stop(0);
        x.start(1);
        due.is("leader() of 1, 3, 4: 1 was up when 4 was taken in", x.leader(), 1);

        x = new ElectedStore();
        x.member(4, false);
        x.stop(1);
        x.member(4, true);
        x.stop(2);
        x.stop(0);
        x.start(1);
        due.is("leader() of 1, 3, 4: 1 was down when 4 was taken in", x.leader(), 3);
    }

    private static void noMemberIsLed() {
        due.sentence("if the leader is no member any more, there is no leader then");
        for (int leader = 0; leader < 4; leader++) {
            ElectedStore x = new ElectedStore();
            for (int node = 0; node <= leader; node++) {
                due.is("leader()", x.leader(), node);
                due.is("member(" + node + ", false)", x.member(node, false), 1);
                due.is("leader() after it was taken out", x.leader(), node + 1);
                due.is("isUp(" + node + ")", x.isUp(node), 1);
            }
        }
    }

    private static void isMember() {
        due.sentence("1 if a node is a member, else 0.");
        for (var state : States.all().entrySet()) {
            for (int node = 0; node < 5; node++) {
                ElectedStore x = States.at(state.getValue());
                int before = x.isMember(node);
                x.stop(node);
                x.move(node, 2);
                due.is("isMember(" + node + ") after stop and move in state '" + state.getKey() + "'", x.isMember(node), before);
                x.start(node);
                x.move(node, 0);
                due.is("isMember(" + node + ") after start", x.isMember(node), before);
            }
        }
        ElectedStore x = new ElectedStore();
        x.submitAndStop(0, 1, 1, 1);
        due.is("isMember(0) after submitAndStop", x.isMember(0), 1);
    }
}
