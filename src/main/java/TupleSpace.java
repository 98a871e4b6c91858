public final class TupleSpace {
    public static final int BAD = -1;
    public static final int FULL = -2;
    public static final int BUSY = -3;
    public static final int NONE = -4;

    private static final int CLIENTS = 4;
    private static final int MOST_ENTRIES = 20;
    private static final int LAST_TUPLE = 255;
    private static final int LAST_TEMPLATE = 288;
    private static final int LONGEST_LIFE = 100;
    private static final int LONGEST_PASS = 50;
    private static final int FIELD_VALUES = 16;
    private static final int TEMPLATE_BASE = 17;
    private static final int ANY = 16;

    private static final int NOBODY = -1;
    private static final int NO_END = -1;
    private static final int NO_ENTRY = -1;

    // The numbers that state answers.
    private static final int IDLE = 0;
    private static final int READING = 1;
    private static final int TAKING = 2;
    private static final int WITH_TRANSACTION = 4;

    // The entries stand in the order of their age, the oldest at 0, so that
    // the first one found is the one that is due.
    private final int[] tuples = new int[MOST_ENTRIES];
    private final int[] ends = new int[MOST_ENTRIES];
    private final int[] owners = new int[MOST_ENTRIES];
    private final int[] takers = new int[MOST_ENTRIES];
    // Bit c stands for a mark by the transaction of client c.
    private final int[] marks = new int[MOST_ENTRIES];
    private int entryCount = 0;

    // How many entries have each first field: what level 1 looks at.
    private final int[] withFirst = new int[FIELD_VALUES];
    private int searchLevel = 1;

    private final boolean[] inTransaction = new boolean[CLIENTS];
    private final int[] lastGiven = new int[CLIENTS];
    private final int[] waitKind = new int[CLIENTS];
    private final int[] waitTemplate = new int[CLIENTS];
    // The clients that wait, in the order in which they began to.
    private final int[] queue = new int[CLIENTS];
    private int queueLength = 0;

    private int time = 0;

    public TupleSpace() {
        for (int c = 0; c < CLIENTS; c++) {
            lastGiven[c] = NONE;
        }
    }

    public int put(int c, int tuple, int life) {
        if (!isClient(c) || tuple < 0 || tuple > LAST_TUPLE || life < 0 || life > LONGEST_LIFE) {
            return BAD;
        }
        if (waitKind[c] != IDLE) {
            return BUSY;
        }
        if (entryCount >= MOST_ENTRIES) {
            return FULL;
        }
        addEntry(c, tuple, life);
        // Kept here because the service may take entries away.
        int answer = entryCount;
        serve();
        return answer;
    }

    public int ask(int c, int how, int template) {
        if (!isClient(c) || how < 0 || how > 3 || !isTemplate(template)) {
            return BAD;
        }
        if (waitKind[c] != IDLE) {
            return BUSY;
        }
        int kind = how % 2 == 0 ? READING : TAKING;
        int tuple = give(c, kind, template);
        if (tuple == NONE && how < 2) {
            startWaiting(c, kind, template);
        }
        return tuple;
    }

    public int given(int c) {
        return isClient(c) ? lastGiven[c] : BAD;
    }

    public boolean begin(int c) {
        if (!isClient(c) || waitKind[c] != IDLE || inTransaction[c]) {
            return false;
        }
        inTransaction[c] = true;
        return true;
    }

    public boolean commit(int c) {
        if (!canEndTransaction(c)) {
            return false;
        }
        removeTakenBy(c);
        for (int at = 0; at < entryCount; at++) {
            if (owners[at] == c) {
                owners[at] = NOBODY;
            }
        }
        closeTransaction(c);
        serve();
        return true;
    }

    public boolean abort(int c) {
        if (!canEndTransaction(c)) {
            return false;
        }
        removeOwnedBy(c);
        for (int at = 0; at < entryCount; at++) {
            if (takers[at] == c) {
                takers[at] = NOBODY;
            }
        }
        closeTransaction(c);
        serve();
        return true;
    }

    public boolean cancel(int c) {
        if (!isClient(c) || waitKind[c] == IDLE) {
            return false;
        }
        waitKind[c] = IDLE;
        leaveQueue(c);
        return true;
    }

    public int pass(int n) {
        if (n < 0 || n > LONGEST_PASS) {
            return BAD;
        }
        time += n;
        int gone = removeEnded();
        serve();
        return gone;
    }

    public int count(int c, int template) {
        if (!isClient(c) || !isTemplate(template)) {
            return BAD;
        }
        int found = 0;
        int stop = searchStop(template);
        for (int at = 0; at < stop; at++) {
            if (fits(at, template) && isSeen(c, at)) {
                found++;
            }
        }
        return found;
    }

    public int seen(int c, int template, int k) {
        if (!isClient(c) || !isTemplate(template)) {
            return BAD;
        }
        int found = 0;
        int stop = searchStop(template);
        for (int at = 0; at < stop; at++) {
            if (fits(at, template) && isSeen(c, at)) {
                if (found == k) {
                    return tuples[at];
                }
                found++;
            }
        }
        return NONE;
    }

    public int state(int c) {
        if (!isClient(c)) {
            return BAD;
        }
        return inTransaction[c] ? waitKind[c] + WITH_TRANSACTION : waitKind[c];
    }

    public int place(int c) {
        if (!isClient(c)) {
            return BAD;
        }
        for (int turn = 0; turn < queueLength; turn++) {
            if (queue[turn] == c) {
                return turn;
            }
        }
        return NONE;
    }

    public int entries() {
        return entryCount;
    }

    public int next() {
        int soonest = NONE;
        for (int at = 0; at < entryCount; at++) {
            if (ends[at] != NO_END) {
                int left = ends[at] - time;
                if (soonest == NONE || left < soonest) {
                    soonest = left;
                }
            }
        }
        return soonest;
    }

    public boolean level(int k) {
        if (k < 0 || k > 1) {
            return false;
        }
        searchLevel = k;
        return true;
    }

    private static boolean isClient(int c) {
        return c >= 0 && c < CLIENTS;
    }

    private static boolean isTemplate(int template) {
        return template >= 0 && template <= LAST_TEMPLATE;
    }

    private boolean canEndTransaction(int c) {
        return isClient(c) && waitKind[c] == IDLE && inTransaction[c];
    }

    private boolean fits(int at, int template) {
        int first = template / TEMPLATE_BASE;
        int second = template % TEMPLATE_BASE;
        return (first == ANY || first == tuples[at] / FIELD_VALUES)
            && (second == ANY || second == tuples[at] % FIELD_VALUES);
    }

    private boolean isSeen(int c, int at) {
        return takers[at] == NOBODY && (owners[at] == NOBODY || owners[at] == c);
    }

    private boolean isMarkedByOther(int c, int at) {
        return (marks[at] & ~(1 << c)) != 0;
    }

    // Level 1 spares the walk through the entries if none has the first field
    // asked for; level 0 always walks. What is found is the same.
    private int searchStop(int template) {
        int first = template / TEMPLATE_BASE;
        if (searchLevel == 1 && first != ANY && withFirst[first] == 0) {
            return 0;
        }
        return entryCount;
    }

    private int findOldest(int c, int kind, int template) {
        int stop = searchStop(template);
        for (int at = 0; at < stop; at++) {
            if (fits(at, template) && isSeen(c, at)) {
                if (kind == READING || !isMarkedByOther(c, at)) {
                    return at;
                }
            }
        }
        return NO_ENTRY;
    }

    private int give(int c, int kind, int template) {
        int at = findOldest(c, kind, template);
        if (at == NO_ENTRY) {
            return NONE;
        }
        int tuple = tuples[at];
        lastGiven[c] = tuple;
        if (kind == TAKING) {
            takeEntry(c, at);
        } else if (inTransaction[c]) {
            marks[at] |= 1 << c;
        }
        return tuple;
    }

    private void takeEntry(int c, int at) {
        if (inTransaction[c] && owners[at] != c) {
            takers[at] = c;
        } else {
            removeEntry(at);
        }
    }

    private void addEntry(int c, int tuple, int life) {
        tuples[entryCount] = tuple;
        ends[entryCount] = life == 0 ? NO_END : time + life;
        owners[entryCount] = inTransaction[c] ? c : NOBODY;
        takers[entryCount] = NOBODY;
        marks[entryCount] = 0;
        entryCount++;
        withFirst[tuple / FIELD_VALUES]++;
    }

    private void removeEntry(int at) {
        withFirst[tuples[at] / FIELD_VALUES]--;
        entryCount--;
        for (int to = at; to < entryCount; to++) {
            tuples[to] = tuples[to + 1];
            ends[to] = ends[to + 1];
            owners[to] = owners[to + 1];
            takers[to] = takers[to + 1];
            marks[to] = marks[to + 1];
        }
    }

    // The loops that remove run from the newest entry to the oldest: a removal
    // moves only entries that have been looked at.
    private void removeTakenBy(int c) {
        for (int at = entryCount - 1; at >= 0; at--) {
            if (takers[at] == c) {
                removeEntry(at);
            }
        }
    }

    private void removeOwnedBy(int c) {
        for (int at = entryCount - 1; at >= 0; at--) {
            if (owners[at] == c) {
                removeEntry(at);
            }
        }
    }

    private int removeEnded() {
        int gone = 0;
        for (int at = entryCount - 1; at >= 0; at--) {
            if (ends[at] != NO_END && ends[at] <= time) {
                removeEntry(at);
                gone++;
            }
        }
        return gone;
    }

    private void closeTransaction(int c) {
        for (int at = 0; at < entryCount; at++) {
            marks[at] &= ~(1 << c);
        }
        inTransaction[c] = false;
    }

    private void startWaiting(int c, int kind, int template) {
        waitKind[c] = kind;
        waitTemplate[c] = template;
        queue[queueLength] = c;
        queueLength++;
    }

    private void leaveQueue(int c) {
        int kept = 0;
        for (int turn = 0; turn < queueLength; turn++) {
            if (queue[turn] != c) {
                queue[kept] = queue[turn];
                kept++;
            }
        }
        queueLength = kept;
    }

    // A refused call needs no service: it changes nothing, and after the last
    // service nothing was left that could be given to a client that waits.
    private void serve() {
        int kept = 0;
        for (int turn = 0; turn < queueLength; turn++) {
            int c = queue[turn];
            int tuple = give(c, waitKind[c], waitTemplate[c]);
            if (tuple == NONE) {
                queue[kept] = c;
                kept++;
            } else {
                waitKind[c] = IDLE;
            }
        }
        queueLength = kept;
    }
}
