public final class ElectedStore {
    public static final int BAD = -1;
    public static final int NO_QUORUM = -2;
    public static final int OLD = -3;
    public static final int LAST = -4;
    public static final int SPLIT = -5;
    public static final int NONE = -6;

    private static final int NODES = 5;
    private static final int GROUPS = 3;
    private static final int KEYS = 6;
    private static final int SESSIONS = 4;
    private static final int CODES = 72;

    // A state is a row of cells: the keys' values, then the sessions' last numbers, then their answers.
    private static final int NUMBERS_AT = 6;
    private static final int ANSWERS_AT = 10;
    private static final int STATE_CELLS = 14;
    private static final int COPY_CELLS = 70;

    private static final int NOBODY = -1;
    private static final int NO_GROUP = -1;

    private static final int FRESH = 0;
    private static final int REPEATED = 1;
    private static final int STILL_PENDING = 2;
    private static final int DROPPED = 3;

    private final boolean[] ups = new boolean[NODES];
    private final boolean[] members = new boolean[NODES];
    private final boolean[] currents = new boolean[NODES];
    private final int[] groups = new int[NODES];
    private final int[] state = new int[STATE_CELLS];
    private final int[] copies = new int[COPY_CELLS];

    private int leaderNode;

    // The pending command; there is one as long as it has a holder.
    private int holder;
    private int pendingCode;
    private int pendingNumber;
    private int pendingA;
    private int pendingB;

    public ElectedStore() {
        for (int node = 0; node < NODES; node++) {
            ups[node] = true;
            members[node] = true;
            currents[node] = true;
        }
        leaderNode = 0;
        holder = NOBODY;
    }

    public int stop(int node) {
        if (!isNode(node)) {
            return BAD;
        }
        int before = ups[node] ? 1 : 0;
        ups[node] = false;
        settle();
        return before;
    }

    public int start(int node) {
        if (!isNode(node)) {
            return BAD;
        }
        int before = ups[node] ? 0 : 1;
        ups[node] = true;
        settle();
        return before;
    }

    public int move(int node, int group) {
        if (!isNode(node) || group < 0 || group >= GROUPS) {
            return BAD;
        }
        int before = groups[node];
        groups[node] = group;
        settle();
        return before;
    }

    public int member(int node, boolean flag) {
        if (!isNode(node)) {
            return BAD;
        }
        int group = quorumGroup();
        if (group == NO_GROUP) {
            return NO_QUORUM;
        }
        if (members[node] == flag) {
            return 0;
        }
        if (!flag && memberCount() == 1) {
            return LAST;
        }
        members[node] = flag;
        if (!isQuorum(group)) {
            // A refused call changes nothing.
            members[node] = !flag;
            return SPLIT;
        }
        markStep(group);
        // A leader who is no member any more is not in the quorum, so the settling finds no leader then.
        settle();
        return 1;
    }

    public int isUp(int node) {
        if (!isNode(node)) {
            return BAD;
        }
        return ups[node] ? 1 : 0;
    }

    public int isMember(int node) {
        if (!isNode(node)) {
            return BAD;
        }
        return members[node] ? 1 : 0;
    }

    public int leader() {
        return leaderNode == NOBODY ? NO_QUORUM : leaderNode;
    }

    public int submit(int code, int number, int a, int b) {
        int verdict = verdictOn(code, number);
        if (verdict != FRESH) {
            return verdict;
        }
        doCommand(code, number, a, b);
        int group = quorumGroup();
        markStep(group);
        settle();
        return FRESH;
    }

    public int submitAndStop(int code, int number, int a, int b) {
        int verdict = verdictOn(code, number);
        if (verdict != FRESH) {
            return verdict;
        }
        pendingCode = code;
        pendingNumber = number;
        pendingA = a;
        pendingB = b;
        holder = leaderNode;
        if (isNode(leaderNode)) {
            ups[leaderNode] = false;
        }
        settle();
        return holder == NOBODY ? DROPPED : STILL_PENDING;
    }

    public int pending() {
        return holder == NOBODY ? 0 : 1;
    }

    public int get(int key) {
        if (!isKey(key) || quorumGroup() == NO_GROUP) {
            return 0;
        }
        return state[key];
    }

    public int canGet(int key) {
        if (!isKey(key)) {
            return BAD;
        }
        return quorumGroup() == NO_GROUP ? NO_QUORUM : 0;
    }

    public int local(int node, int key) {
        if (!isNode(node) || !isKey(key)) {
            return 0;
        }
        return copies[node * STATE_CELLS + key];
    }

    public int lastNumber(int node, int session) {
        if (!isNode(node) || !isSession(session)) {
            return BAD;
        }
        return copies[node * STATE_CELLS + NUMBERS_AT + session];
    }

    public int answer(int node, int session) {
        if (!isNode(node) || !isSession(session)) {
            return 0;
        }
        return copies[node * STATE_CELLS + ANSWERS_AT + session];
    }

    public int same(int node, int other) {
        if (!isNode(node) || !isNode(other)) {
            return BAD;
        }
        for (int cell = 0; cell < STATE_CELLS; cell++) {
            if (copies[node * STATE_CELLS + cell] != copies[other * STATE_CELLS + cell]) {
                return 0;
            }
        }
        return 1;
    }

    public void compact() {
        // The copies hold all that any answer needs, so no log is kept and there is nothing to throw away.
    }

    public int faults() {
        // Without logs there is none that a check could find a fault in.
        return 0;
    }

    private boolean isNode(int node) {
        return node >= 0 && node < NODES;
    }

    private boolean isKey(int key) {
        return key >= 0 && key < KEYS;
    }

    private boolean isSession(int session) {
        return session >= 0 && session < SESSIONS;
    }

    private int sessionOf(int code) {
        return code / KEYS % SESSIONS;
    }

    private int memberCount() {
        int count = 0;
        for (int node = 0; node < NODES; node++) {
            if (members[node]) {
                count++;
            }
        }
        return count;
    }

    private boolean isUpMemberIn(int node, int group) {
        return node >= 0 && node < NODES && ups[node] && members[node] && groups[node] == group;
    }

    private int upMemberCount(int group) {
        int count = 0;
        for (int node = 0; node < NODES; node++) {
            if (isUpMemberIn(node, group)) {
                count++;
            }
        }
        return count;
    }

    private boolean isQuorum(int group) {
        return 2 * upMemberCount(group) > memberCount();
    }

    private int quorumGroup() {
        for (int group = 0; group < GROUPS; group++) {
            if (isQuorum(group)) {
                return group;
            }
        }
        return NO_GROUP;
    }

    private int verdictOn(int code, int number) {
        if (code < 0 || code >= CODES || number < 1) {
            return BAD;
        }
        if (quorumGroup() == NO_GROUP) {
            return NO_QUORUM;
        }
        int session = sessionOf(code);
        int last = state[NUMBERS_AT + session];
        if (number < last) {
            return OLD;
        }
        return number == last ? REPEATED : FRESH;
    }

    private void doCommand(int code, int number, int a, int b) {
        int kind = code / (KEYS * SESSIONS);
        int session = sessionOf(code);
        int key = code % KEYS;
        int x = state[key];
        if (kind == 0) {
            state[key] = a;
        } else if (kind == 1) {
            state[key] = x + a;
        } else if (x == a) {
            state[key] = b;
        }
        state[NUMBERS_AT + session] = number;
        state[ANSWERS_AT + session] = x;
    }

    private void markStep(int group) {
        for (int node = 0; node < NODES; node++) {
            if (!isUpMemberIn(node, group)) {
                currents[node] = false;
            }
        }
    }

    private void settle() {
        int group = quorumGroup();
        if (group == NO_GROUP) {
            leaderNode = NOBODY;
            return;
        }
        if (!isUpMemberIn(leaderNode, group)) {
            elect(group);
        }
        refreshQuorum(group);
    }

    private void elect(int group) {
        if (isHolderNeeded(group)) {
            leaderNode = holder;
            doCommand(pendingCode, pendingNumber, pendingA, pendingB);
        } else {
            // Whoever held a command that the others went on without must not lead them.
            leaderNode = leastCurrent(group, holder);
        }
        // The choice and the command are steps of the same quorum, so one mark does for both.
        markStep(group);
        holder = NOBODY;
    }

    private boolean isHolderNeeded(int group) {
        return isUpMemberIn(holder, group) && 2 * (upMemberCount(group) - 1) <= memberCount();
    }

    private int leastCurrent(int group, int barred) {
        for (int node = 0; node < NODES; node++) {
            if (node != barred && currents[node] && isUpMemberIn(node, group)) {
                return node;
            }
        }
        return NOBODY;
    }

    private void refreshQuorum(int group) {
        for (int node = 0; node < NODES; node++) {
            if (isUpMemberIn(node, group)) {
                currents[node] = true;
                copyStateTo(node);
            }
        }
    }

    private void copyStateTo(int node) {
        for (int cell = 0; cell < STATE_CELLS; cell++) {
            copies[node * STATE_CELLS + cell] = state[cell];
        }
    }
}
