// One method for each sentence of the document that names a boundary case, in
// the document's order. The sentence stands above the checks that hold it.
// A template below 16 asks for first field 0, so it is the tuple's own number.
public final class BoundaryTests {
    private static final int BAD = -1;
    private static final int FULL = -2;
    private static final int BUSY = -3;
    private static final int NONE = -4;

    private static final int READ = 0;
    private static final int TAKE = 1;
    private static final int READ_NOW = 2;
    private static final int TAKE_NOW = 3;

    private static final int ANY = 16;
    private static final int ALL = 288;
    private static final int MOST = 20;
    private static final int MOST_CALLS = 512;
    private static final int LEAST_INT = Integer.MIN_VALUE;
    private static final int GREATEST_INT = Integer.MAX_VALUE;

    private static String sentence = "";
    private static String lastCall = "";
    private static int checks = 0;
    private static int wrong = 0;

    // Keeps the text of the last call for the message, and sees to it that no
    // test uses an object for longer than the document promises answers.
    private static final class Space {
        private final TupleSpace inner = new TupleSpace();
        private int calls = 0;

        private void note(String name, int... arguments) {
            StringBuilder text = new StringBuilder(name).append('(');
            for (int i = 0; i < arguments.length; i++) {
                text.append(i == 0 ? "" : ", ").append(arguments[i]);
            }
            lastCall = text.append(')').toString();
            calls++;
            if (calls > MOST_CALLS) {
                fail("the test makes more than " + MOST_CALLS + " calls");
            }
        }

        int put(int c, int tuple, int life) {
            note("put", c, tuple, life);
            return inner.put(c, tuple, life);
        }

        int ask(int c, int how, int template) {
            note("ask", c, how, template);
            return inner.ask(c, how, template);
        }

        int given(int c) {
            note("given", c);
            return inner.given(c);
        }

        boolean begin(int c) {
            note("begin", c);
            return inner.begin(c);
        }

        boolean commit(int c) {
            note("commit", c);
            return inner.commit(c);
        }

        boolean abort(int c) {
            note("abort", c);
            return inner.abort(c);
        }

        boolean cancel(int c) {
            note("cancel", c);
            return inner.cancel(c);
        }

        int pass(int n) {
            note("pass", n);
            return inner.pass(n);
        }

        int count(int c, int template) {
            note("count", c, template);
            return inner.count(c, template);
        }

        int seen(int c, int template, int k) {
            note("seen", c, template, k);
            return inner.seen(c, template, k);
        }

        int state(int c) {
            note("state", c);
            return inner.state(c);
        }

        int place(int c) {
            note("place", c);
            return inner.place(c);
        }

        int entries() {
            note("entries");
            return inner.entries();
        }

        int next() {
            note("next");
            return inner.next();
        }

        boolean level(int k) {
            note("level", k);
            return inner.level(k);
        }
    }

    private static void fail(String what) {
        wrong++;
        System.out.println(sentence + ": " + what);
    }

    private static void due(int want, int got) {
        checks++;
        if (got != want) {
            fail(lastCall + " answered " + got + ", due is " + want);
        }
    }

    private static void yes(boolean got) {
        checks++;
        if (!got) {
            fail(lastCall + " answered false, due is true");
        }
    }

    private static void no(boolean got) {
        checks++;
        if (got) {
            fail(lastCall + " answered true, due is false");
        }
    }

    private static int[] outside(int low, int high) {
        return new int[] {
            LEAST_INT, LEAST_INT + 1, low - 2, low - 1, high + 1, high + 2, GREATEST_INT - 1, GREATEST_INT,
        };
    }

    private static int tuple(int first, int second) {
        return 16 * first + second;
    }

    private static int template(int first, int second) {
        return 17 * first + second;
    }

    private static int templateOf(int tuple) {
        return template(tuple / 16, tuple % 16);
    }

    // Tuples 0 to 19 in this order, put by the clients in turn.
    private static Space full() {
        Space x = new Space();
        for (int i = 0; i < MOST; i++) {
            due(i + 1, x.put(i % 4, i, 0));
        }
        return x;
    }

    private static void dueSights(Space x, int c, int... tuples) {
        due(tuples.length, x.count(c, ALL));
        for (int k = 0; k < tuples.length; k++) {
            due(tuples[k], x.seen(c, ALL, k));
        }
        due(NONE, x.seen(c, ALL, tuples.length));
    }

    private static void dueStates(Space x, int... states) {
        for (int c = 0; c < states.length; c++) {
            due(states[c], x.state(c));
        }
    }

    private static void dueGiven(Space x, int... tuples) {
        for (int c = 0; c < tuples.length; c++) {
            due(tuples[c], x.given(c));
        }
    }

    private static void duePlaces(Space x, int... places) {
        for (int c = 0; c < places.length; c++) {
            due(places[c], x.place(c));
        }
    }

    public static void main(String[] args) {
        terms();
        seenAndFree();
        readingAndTaking();
        service();
        newObject();
        put();
        ask();
        given();
        begin();
        commit();
        abort();
        cancel();
        pass();
        countAndSeen();
        stateAndPlace();
        entriesAndNext();
        level();
        orderAndLimits();
        lengthOfUse();
        System.out.println((checks - wrong) + " passed, " + wrong + " failed");
        if (wrong != 0) {
            System.exit(1);
        }
    }

    // ---- Terms: fields, templates, entries, time

    private static void terms() {
        fieldsReachFromZeroToFifteen();
        sixteenStandsForAny();
        everyTupleFitsItsOwnTemplateAlone();
        thereAreUpToTwentyEntries();
        twentyEntriesCountUnseenOnes();
        theAgeOutlastsManyEntries();
        theTimeBeginsAtZero();
        theTimeGrowsFar();
        eachClientMayHaveATransactionAndWait();
    }

    private static void fieldsReachFromZeroToFifteen() {
        sentence = "Terms: two FIELDS, the first and the second, from 0 to 15; it is written 16 * first + second";
        Space x = new Space();
        due(1, x.put(0, tuple(0, 0), 0));
        due(2, x.put(0, tuple(0, 15), 0));
        due(3, x.put(0, tuple(1, 0), 0));
        due(4, x.put(0, tuple(15, 0), 0));
        due(5, x.put(0, tuple(15, 15), 0));
        due(2, x.count(1, template(0, ANY)));
        due(1, x.count(1, template(1, ANY)));
        due(0, x.count(1, template(2, ANY)));
        due(0, x.count(1, template(14, ANY)));
        due(2, x.count(1, template(15, ANY)));
        due(3, x.count(1, template(ANY, 0)));
        due(0, x.count(1, template(ANY, 1)));
        due(0, x.count(1, template(ANY, 14)));
        due(2, x.count(1, template(ANY, 15)));
        due(0, x.seen(1, 0, 0));
        due(15, x.seen(1, 15, 0));
        due(16, x.seen(1, 17, 0));
        due(240, x.seen(1, 255, 0));
        due(255, x.seen(1, 270, 0));
    }

    private static void sixteenStandsForAny() {
        sentence = "Terms: 16 for any";
        Space x = new Space();
        int[] corners = {0, 15, 16, 239, 240, 255};
        for (int corner : corners) {
            x.put(0, corner, 0);
        }
        // Every template there is, against the tuples at the edges.
        for (int t = 0; t <= ALL; t++) {
            int fit = 0;
            for (int corner : corners) {
                boolean first = t / 17 == ANY || t / 17 == corner / 16;
                boolean second = t % 17 == ANY || t % 17 == corner % 16;
                fit += first && second ? 1 : 0;
            }
            due(fit, x.count(1, t));
        }
        due(0, x.ask(1, READ_NOW, 16));
        due(240, x.ask(1, READ_NOW, 271));
        due(0, x.ask(1, READ_NOW, 272));
        due(15, x.ask(1, READ_NOW, 287));
        due(0, x.ask(1, READ_NOW, 288));
    }

    private static void everyTupleFitsItsOwnTemplateAlone() {
        sentence = "Terms: a tuple FITS it if each field is the one asked for";
        for (int t = 0; t <= 255; t++) {
            Space x = new Space();
            x.put(0, t, 0);
            due(t, x.ask(1, READ_NOW, templateOf(t)));
            due(t, x.ask(1, READ_NOW, template(t / 16, ANY)));
            due(t, x.ask(1, READ_NOW, template(ANY, t % 16)));
            due(t, x.ask(1, READ_NOW, ALL));
            due(NONE, x.ask(1, READ_NOW, template((t / 16 + 1) % 16, t % 16)));
            due(NONE, x.ask(1, READ_NOW, template(t / 16, (t + 1) % 16)));
            due(NONE, x.ask(1, READ_NOW, template((t / 16 + 1) % 16, ANY)));
            due(NONE, x.ask(1, READ_NOW, template(ANY, (t + 1) % 16)));
        }
    }

    private static void thereAreUpToTwentyEntries() {
        sentence = "Terms: There are up to 20 ENTRIES";
        Space x = full();
        due(20, x.entries());
        due(FULL, x.put(0, 20, 0));
        due(20, x.entries());
        due(20, x.count(3, ALL));
        due(19, x.seen(3, ALL, 19));
        due(NONE, x.seen(3, ALL, 20));
        due(19, x.ask(1, TAKE_NOW, templateOf(19)));
        due(20, x.put(0, 21, 0));
        due(FULL, x.put(0, 22, 0));
        due(0, x.ask(1, TAKE_NOW, ALL));
        due(20, x.put(0, 23, 0));
        due(FULL, x.put(0, 24, 0));
        due(1, x.seen(2, ALL, 0));
        due(21, x.seen(2, ALL, 18));
        due(23, x.seen(2, ALL, 19));
        for (int i = 20; i > 0; i--) {
            due(i, x.entries());
            x.ask(2, TAKE_NOW, ALL);
        }
        due(0, x.entries());
        due(NONE, x.ask(2, TAKE_NOW, ALL));
        due(1, x.put(2, 0, 0));
    }

    private static void twentyEntriesCountUnseenOnes() {
        sentence = "Terms: There are up to 20 ENTRIES (private and taken ones among them)";
        Space x = new Space();
        x.begin(0);
        x.begin(1);
        for (int i = 0; i < 10; i++) {
            due(2 * i + 1, x.put(2, i, 0));
            due(2 * i + 2, x.put(0, 100 + i, 0));
            due(i, x.ask(1, TAKE, ALL));
        }
        due(0, x.count(2, ALL));
        due(10, x.count(0, ALL));
        due(FULL, x.put(2, 1, 0));
        due(FULL, x.put(0, 1, 0));
        due(FULL, x.put(1, 1, 0));
        yes(x.commit(1));
        due(10, x.entries());
        for (int i = 11; i <= 20; i++) {
            due(i, x.put(3, i, 0));
        }
        due(FULL, x.put(3, 21, 0));
        yes(x.abort(0));
        due(10, x.entries());
        due(11, x.seen(0, ALL, 0));
        due(20, x.seen(0, ALL, 9));
    }

    private static void theAgeOutlastsManyEntries() {
        sentence = "Terms: of two entries that is the older one that was put first";
        Space x = full();
        for (int i = 20; i < 240; i++) {
            due(i - 20, x.ask(i % 4, TAKE_NOW, ALL));
            due(20, x.put(i % 4, i, 0));
        }
        due(220, x.seen(0, ALL, 0));
        due(239, x.seen(0, ALL, 19));

        // The order is that of putting, not that of becoming public again.
        Space y = new Space();
        y.begin(0);
        y.put(0, 7, 0);
        y.put(1, 5, 0);
        y.begin(2);
        y.put(2, 6, 0);
        y.put(1, 4, 0);
        yes(y.commit(2));
        yes(y.commit(0));
        dueSights(y, 3, 7, 5, 6, 4);
        y.begin(3);
        due(7, y.ask(3, TAKE, ALL));
        due(5, y.ask(3, TAKE, ALL));
        y.put(1, 3, 0);
        yes(y.abort(3));
        dueSights(y, 3, 7, 5, 6, 4, 3);
    }

    private static void theTimeBeginsAtZero() {
        sentence = "Terms: a TIME, 0 at first";
        Space x = new Space();
        x.put(0, 1, 1);
        due(1, x.next());
        due(0, x.pass(0));
        due(1, x.pass(1));
        due(NONE, x.next());
    }

    private static void theTimeGrowsFar() {
        sentence = "Terms: a TIME (after 500 calls of pass)";
        Space x = new Space();
        for (int i = 0; i < 500; i++) {
            due(0, x.pass(50));
        }
        due(1, x.put(0, 1, 100));
        due(100, x.next());
        due(0, x.pass(50));
        due(0, x.pass(49));
        due(1, x.next());
        due(1, x.pass(1));
    }

    // Bit c of the way tells whether client c commits or aborts.
    private static void eachClientMayHaveATransactionAndWait() {
        sentence = "Terms: Each client may have a TRANSACTION, and each may be WAITING";
        for (int way = 0; way < 16; way++) {
            Space x = fourTransactions();
            for (int c = 0; c < 4; c++) {
                due(NONE, x.ask(c, c % 2, templateOf(99)));
            }
            dueStates(x, 5, 6, 5, 6);
            duePlaces(x, 0, 1, 2, 3);
            for (int c = 0; c < 4; c++) {
                yes(x.cancel(c));
                dueSights(x, c, 20, 30 + c);
            }
            for (int c = 0; c < 4; c++) {
                due(NONE, x.ask(0, TAKE_NOW, templateOf(20)));
                yes((way >> c & 1) == 1 ? x.commit(c) : x.abort(c));
                due(0, x.state(c));
            }
            dueSights(x, 0, whatTheFourLeave(way));
            due(5, x.entries());
            due(20, x.ask(0, TAKE_NOW, templateOf(20)));
        }
    }

    // Client c takes 10 + c, marks 20 as all do, and puts 30 + c.
    private static Space fourTransactions() {
        Space x = new Space();
        for (int c = 0; c < 4; c++) {
            x.put(c, 10 + c, 0);
        }
        x.put(0, 20, 0);
        for (int c = 0; c < 4; c++) {
            yes(x.begin(c));
            due(6 + c, x.put(c, 30 + c, 0));
            due(10 + c, x.ask(c, TAKE, templateOf(10 + c)));
            due(20, x.ask(c, READ, templateOf(20)));
        }
        dueStates(x, 4, 4, 4, 4);
        return x;
    }

    private static int[] whatTheFourLeave(int way) {
        int[] left = new int[5];
        int size = 0;
        for (int c = 0; c < 4; c++) {
            if ((way >> c & 1) == 0) {
                left[size++] = 10 + c;
            }
        }
        left[size++] = 20;
        for (int c = 0; c < 4; c++) {
            if ((way >> c & 1) == 1) {
                left[size++] = 30 + c;
            }
        }
        return left;
    }

    // ---- Terms: seen and free

    private static void seenAndFree() {
        anEntryIsSeenIfNotTaken();
        anEntryIsSeenIfNotPrivateToAnother();
        aMarkHidesNothing();
        anEntryIsFreeIfNoOtherMarkedIt();
        marksOfThreeOthers();
    }

    private static void anEntryIsSeenIfNotTaken() {
        sentence = "Terms: An entry is SEEN by a client iff it is not taken";
        for (int taker = 0; taker < 4; taker++) {
            Space x = new Space();
            x.put(0, 9, 0);
            x.begin(taker);
            due(9, x.ask(taker, TAKE, ALL));
            for (int c = 0; c < 4; c++) {
                due(0, x.count(c, ALL));
                due(NONE, x.seen(c, ALL, 0));
                due(NONE, x.ask(c, READ_NOW, ALL));
                due(NONE, x.ask(c, TAKE_NOW, ALL));
            }
            due(1, x.entries());
        }
    }

    private static void anEntryIsSeenIfNotPrivateToAnother() {
        sentence = "Terms: SEEN iff .. not private to another client's transaction";
        for (int owner = 0; owner < 4; owner++) {
            Space x = new Space();
            x.begin(owner);
            x.put(owner, 9, 0);
            for (int c = 0; c < 4; c++) {
                due(c == owner ? 1 : 0, x.count(c, ALL));
                due(c == owner ? 9 : NONE, x.seen(c, ALL, 0));
                due(c == owner ? 9 : NONE, x.ask(c, READ_NOW, ALL));
            }
            int other = (owner + 1) % 4;
            x.begin(other);
            due(0, x.count(other, ALL));
            due(NONE, x.ask(other, TAKE_NOW, ALL));
            yes(x.commit(other));
            due(0, x.count(other, ALL));
            due(9, x.ask(owner, TAKE_NOW, ALL));
        }
    }

    private static void aMarkHidesNothing() {
        sentence = "Terms: SEEN (marked or not)";
        Space x = new Space();
        x.put(0, 9, 0);
        for (int c = 0; c < 4; c++) {
            x.begin(c);
            due(9, x.ask(c, READ, ALL));
        }
        for (int c = 0; c < 4; c++) {
            due(1, x.count(c, ALL));
            due(9, x.seen(c, ALL, 0));
            due(9, x.ask(c, READ_NOW, ALL));
        }
    }

    private static void anEntryIsFreeIfNoOtherMarkedIt() {
        sentence = "Terms: FREE for it iff it is seen by it and marked by no other client's transaction";
        for (int marker = 0; marker < 4; marker++) {
            for (int taker = 0; taker < 4; taker++) {
                Space x = new Space();
                x.put(0, 9, 0);
                x.begin(marker);
                due(9, x.ask(marker, READ, ALL));
                due(taker == marker ? 9 : NONE, x.ask(taker, TAKE_NOW, ALL));
                x.begin(taker);
                due(NONE, x.ask(taker, TAKE_NOW, ALL));
            }
        }
    }

    private static void marksOfThreeOthers() {
        sentence = "Terms: MARKED by several";
        Space x = new Space();
        x.put(0, 9, 0);
        for (int c = 0; c < 4; c++) {
            x.begin(c);
            due(9, x.ask(c, READ, ALL));
            due(9, x.ask(c, READ, ALL));
        }
        for (int c = 0; c < 4; c++) {
            due(NONE, x.ask(c, TAKE_NOW, ALL));
        }
        yes(x.commit(0));
        due(NONE, x.ask(3, TAKE_NOW, ALL));
        yes(x.abort(1));
        due(NONE, x.ask(3, TAKE_NOW, ALL));
        due(NONE, x.ask(2, TAKE_NOW, ALL));
        yes(x.commit(2));
        due(NONE, x.ask(2, TAKE_NOW, ALL));
        due(9, x.ask(3, TAKE_NOW, ALL));
    }

    // ---- Terms: to read and to take

    private static void readingAndTaking() {
        readGivesTheOldestSeen();
        readMarksOnlyInATransaction();
        readMarksTheGivenEntryAlone();
        takeGivesTheOldestFree();
        takenGoesWithoutATransaction();
        ownPrivateGoesAtOnce();
        elseItIsTakenByTheTransaction();
        aTransactionMayTakeAllTwenty();
    }

    private static void readGivesTheOldestSeen() {
        sentence = "Terms: To read: of the entries that are seen and fit the oldest one is GIVEN";
        Space x = new Space();
        x.put(0, 1, 0);
        x.begin(1);
        x.put(1, 2, 0);
        x.put(0, 3, 0);
        x.put(0, 20, 0);
        x.begin(2);
        due(1, x.ask(2, TAKE, ALL));
        due(3, x.ask(0, READ_NOW, ALL));
        due(2, x.ask(1, READ_NOW, ALL));
        due(3, x.ask(2, READ_NOW, ALL));
        due(20, x.ask(3, READ_NOW, template(1, ANY)));
    }

    private static void readMarksOnlyInATransaction() {
        sentence = "Terms: if the client has a transaction that marks it";
        Space x = new Space();
        x.put(0, 1, 0);
        due(1, x.ask(1, READ, ALL));
        x.begin(1);
        due(1, x.ask(0, TAKE_NOW, ALL));
        x.put(0, 2, 0);
        due(2, x.ask(1, READ_NOW, ALL));
        due(NONE, x.ask(0, TAKE_NOW, ALL));
        x.put(0, 3, 0);
        due(2, x.count(1, ALL));
        due(3, x.seen(1, ALL, 1));
        due(3, x.ask(0, TAKE_NOW, ALL));
    }

    private static void readMarksTheGivenEntryAlone() {
        sentence = "Terms: if the client has a transaction that marks it (the one given, not the others that fit)";
        Space x = new Space();
        x.put(0, 1, 0);
        x.put(0, 1, 0);
        x.put(0, 1, 0);
        x.begin(1);
        due(1, x.ask(1, READ, ALL));
        due(1, x.ask(0, TAKE_NOW, ALL));
        due(1, x.ask(0, TAKE_NOW, ALL));
        due(NONE, x.ask(0, TAKE_NOW, ALL));
        due(1, x.entries());
        // A new entry does not inherit a mark.
        x.put(0, 1, 0);
        due(1, x.ask(0, TAKE_NOW, ALL));
        due(1, x.entries());
    }

    private static void takeGivesTheOldestFree() {
        sentence = "Terms: To take: of those that are free and fit the oldest one is given";
        Space x = new Space();
        x.put(0, 1, 0);
        x.put(0, 2, 0);
        x.put(0, 3, 0);
        x.put(0, 4, 0);
        x.begin(1);
        due(1, x.ask(1, READ, ALL));
        due(3, x.ask(1, READ, templateOf(3)));
        due(2, x.ask(0, TAKE_NOW, ALL));
        due(4, x.ask(0, TAKE_NOW, ALL));
        due(NONE, x.ask(0, TAKE_NOW, ALL));
        due(1, x.ask(0, READ_NOW, ALL));
        dueSights(x, 0, 1, 3);
    }

    private static void takenGoesWithoutATransaction() {
        sentence = "Terms: it goes, if the client has no transaction";
        Space x = new Space();
        x.put(0, 1, 0);
        x.begin(1);
        due(1, x.ask(0, TAKE_NOW, ALL));
        due(0, x.entries());
        yes(x.abort(1));
        due(0, x.entries());
    }

    private static void ownPrivateGoesAtOnce() {
        sentence = "Terms: it goes, if .. it is private to its own";
        Space x = new Space();
        x.begin(0);
        x.put(0, 1, 0);
        due(1, x.ask(0, READ, ALL));
        due(1, x.ask(0, TAKE, ALL));
        due(0, x.entries());
        yes(x.abort(0));
        due(0, x.entries());
        // An entry of an earlier transaction is private no more.
        x.begin(0);
        x.put(0, 2, 0);
        x.commit(0);
        x.begin(0);
        due(2, x.ask(0, TAKE, ALL));
        due(1, x.entries());
        yes(x.abort(0));
        dueSights(x, 0, 2);
    }

    private static void elseItIsTakenByTheTransaction() {
        sentence = "Terms: else it is taken by its transaction";
        Space x = new Space();
        x.put(0, 1, 0);
        x.begin(0);
        due(1, x.ask(0, TAKE, ALL));
        due(1, x.entries());
        due(0, x.count(0, ALL));
        yes(x.abort(0));
        dueSights(x, 0, 1);
        x.begin(0);
        due(1, x.ask(0, READ, ALL));
        due(1, x.ask(0, TAKE_NOW, ALL));
        due(1, x.entries());
        yes(x.commit(0));
        due(0, x.entries());
    }

    private static void aTransactionMayTakeAllTwenty() {
        sentence = "Terms: else it is taken by its transaction (all 20)";
        Space x = full();
        x.begin(1);
        for (int i = 0; i < MOST; i++) {
            due(i, x.ask(1, TAKE, ALL));
        }
        due(NONE, x.ask(1, TAKE_NOW, ALL));
        due(20, x.entries());
        due(FULL, x.put(1, 1, 0));
        yes(x.abort(1));
        due(20, x.count(0, ALL));
        due(0, x.seen(0, ALL, 0));
        due(19, x.seen(0, ALL, 19));
        x.begin(1);
        for (int i = 0; i < MOST; i++) {
            due(i, x.ask(1, TAKE, ALL));
        }
        yes(x.commit(1));
        due(0, x.entries());
        due(1, x.put(1, 1, 0));
    }

    // ---- Terms: the service

    private static void service() {
        serviceFollowsPut();
        serviceFollowsCommit();
        serviceFollowsAbort();
        serviceAfterPassFindsNothing();
        serviceAfterRefusedCallsFindsNothing();
        noServiceWhenNobodyWaits();
        serviceKeepsTheOrderOfWaiting();
        serviceGivesToAllWhoCanBeServed();
        serviceLeavesOutThoseNotServed();
        serviceMarksForAReaderInATransaction();
        serviceTakesForATakerInATransaction();
        serviceWithMarksOfOthers();
        serviceWithAllFourWaiting();
    }

    private static void serviceFollowsPut() {
        sentence = "Terms: After every call of put .. the SERVICE follows";
        Space x = new Space();
        due(NONE, x.ask(1, READ, ALL));
        due(NONE, x.ask(2, TAKE, ALL));
        due(1, x.put(0, 5, 0));
        dueStates(x, 0, 0, 0, 0);
        dueGiven(x, NONE, 5, 5, NONE);
        due(0, x.entries());
        // A private entry can be given to nobody who waits.
        x.begin(0);
        due(NONE, x.ask(1, READ, ALL));
        due(NONE, x.ask(2, TAKE, ALL));
        due(1, x.put(0, 6, 0));
        dueStates(x, 4, 1, 2, 0);
        dueGiven(x, NONE, 5, 5, NONE);
    }

    private static void serviceFollowsCommit() {
        sentence = "Terms: After every call of .. commit .. the SERVICE follows";
        Space x = new Space();
        x.put(0, 1, 0);
        x.begin(0);
        x.put(0, 5, 0);
        due(1, x.ask(0, READ, templateOf(1)));
        due(NONE, x.ask(1, TAKE, templateOf(5)));
        due(NONE, x.ask(2, TAKE, templateOf(1)));
        due(NONE, x.ask(3, READ, templateOf(2)));
        yes(x.commit(0));
        dueStates(x, 0, 0, 0, 1);
        dueGiven(x, 1, 5, 1, NONE);
        due(0, x.entries());
        due(0, x.place(3));
    }

    private static void serviceFollowsAbort() {
        sentence = "Terms: After every call of .. abort .. the SERVICE follows";
        Space x = new Space();
        x.put(0, 1, 0);
        x.put(0, 2, 0);
        x.begin(0);
        x.put(0, 5, 0);
        due(1, x.ask(0, READ, templateOf(1)));
        due(2, x.ask(0, TAKE, templateOf(2)));
        due(NONE, x.ask(1, READ, templateOf(5)));
        due(NONE, x.ask(2, TAKE, templateOf(1)));
        due(NONE, x.ask(3, READ, templateOf(2)));
        yes(x.abort(0));
        dueStates(x, 0, 1, 0, 0);
        dueGiven(x, 2, NONE, 1, 2);
        dueSights(x, 0, 2);
        due(0, x.place(1));
    }

    private static void serviceAfterPassFindsNothing() {
        sentence = "Terms: After every call of .. pass the SERVICE follows";
        Space x = new Space();
        x.put(0, 1, 5);
        x.begin(0);
        due(1, x.ask(0, READ, ALL));
        due(NONE, x.ask(1, TAKE, ALL));
        due(NONE, x.ask(2, READ, templateOf(9)));
        due(0, x.pass(4));
        dueStates(x, 4, 2, 1, 0);
        due(1, x.pass(1));
        dueStates(x, 4, 2, 1, 0);
        duePlaces(x, NONE, 0, 1, NONE);
        dueGiven(x, 1, NONE, NONE, NONE);
        due(1, x.put(3, 9, 0));
        dueGiven(x, 1, 9, NONE, NONE);
    }

    private static void serviceAfterRefusedCallsFindsNothing() {
        sentence = "Terms: After every call of put, commit, abort or pass (refused ones among them)";
        Space x = new Space();
        x.put(0, 1, 0);
        x.begin(0);
        due(1, x.ask(0, READ, ALL));
        due(NONE, x.ask(1, TAKE, ALL));
        due(BAD, x.put(0, 256, 0));
        due(BUSY, x.put(1, 1, 0));
        no(x.commit(1));
        no(x.abort(2));
        due(BAD, x.pass(51));
        dueStates(x, 4, 2, 0, 0);
        dueGiven(x, 1, NONE, NONE, NONE);
        due(1, x.entries());
    }

    private static void noServiceWhenNobodyWaits() {
        sentence = "Terms: the waiting clients .. ask again (nobody waits)";
        Space x = new Space();
        due(1, x.put(0, 1, 0));
        yes(x.begin(0));
        due(2, x.put(0, 2, 0));
        yes(x.commit(0));
        yes(x.begin(0));
        yes(x.abort(0));
        due(0, x.pass(1));
        dueGiven(x, NONE, NONE, NONE, NONE);
        due(2, x.entries());
        // One that waited and was given something, or gave it up, asks no more.
        due(NONE, x.ask(1, READ, templateOf(7)));
        due(3, x.put(0, 7, 0));
        due(NONE, x.ask(2, TAKE, templateOf(8)));
        yes(x.cancel(2));
        due(1, x.ask(1, READ_NOW, templateOf(1)));
        due(4, x.put(0, 7, 0));
        due(5, x.put(0, 8, 0));
        dueGiven(x, NONE, 1, NONE, NONE);
        due(5, x.entries());
    }

    private static void serviceKeepsTheOrderOfWaiting() {
        sentence = "Terms: in the order in which they began to wait";
        int[][] orders = {{0, 1, 2}, {0, 2, 1}, {1, 0, 2}, {1, 2, 0}, {2, 0, 1}, {2, 1, 0}};
        for (int[] order : orders) {
            Space x = new Space();
            for (int c : order) {
                due(NONE, x.ask(c, TAKE, ALL));
            }
            for (int turn = 0; turn < 3; turn++) {
                due(turn, x.place(order[turn]));
            }
            for (int turn = 0; turn < 3; turn++) {
                due(1, x.put(3, 10 + turn, 0));
                due(10 + turn, x.given(order[turn]));
                due(0, x.state(order[turn]));
                for (int later = turn + 1; later < 3; later++) {
                    due(later - turn - 1, x.place(order[later]));
                    due(NONE, x.given(order[later]));
                }
            }
        }
        // One that gives up and waits anew is the last.
        Space y = new Space();
        y.ask(0, TAKE, ALL);
        y.ask(1, TAKE, ALL);
        y.cancel(0);
        y.ask(0, TAKE, ALL);
        y.put(2, 5, 0);
        dueGiven(y, NONE, 5, NONE, NONE);
        y.put(2, 6, 0);
        dueGiven(y, 6, 5, NONE, NONE);
    }

    private static void serviceGivesToAllWhoCanBeServed() {
        sentence = "Terms: those to whom something is given wait no longer (three at once)";
        Space x = new Space();
        x.begin(3);
        x.put(3, 1, 0);
        x.put(3, 2, 0);
        x.put(3, 3, 0);
        due(NONE, x.ask(2, TAKE, ALL));
        due(NONE, x.ask(0, TAKE, ALL));
        due(NONE, x.ask(1, TAKE, ALL));
        yes(x.commit(3));
        dueGiven(x, 2, 3, 1, NONE);
        dueStates(x, 0, 0, 0, 0);
        duePlaces(x, NONE, NONE, NONE, NONE);
        due(0, x.entries());
    }

    private static void serviceLeavesOutThoseNotServed() {
        sentence = "Terms: those to whom something is given wait no longer (the others do)";
        Space x = new Space();
        due(NONE, x.ask(0, READ, templateOf(1)));
        due(NONE, x.ask(1, TAKE, templateOf(2)));
        due(NONE, x.ask(2, READ, templateOf(2)));
        due(1, x.put(3, 2, 0));
        // The taker before it took what the reader waits for.
        dueStates(x, 1, 0, 1, 0);
        duePlaces(x, 0, NONE, 1, NONE);
        dueGiven(x, NONE, 2, NONE, NONE);
        due(1, x.put(3, 2, 0));
        dueStates(x, 1, 0, 0, 0);
        dueGiven(x, NONE, 2, 2, NONE);
        due(1, x.entries());
        due(2, x.put(3, 1, 0));
        dueStates(x, 0, 0, 0, 0);
        dueGiven(x, 1, 2, 2, NONE);
        due(2, x.entries());
    }

    private static void serviceMarksForAReaderInATransaction() {
        sentence = "Terms: ask again for what they wait for (a read in a transaction marks)";
        Space x = new Space();
        x.begin(0);
        due(NONE, x.ask(0, READ, ALL));
        due(NONE, x.ask(1, READ, ALL));
        due(NONE, x.ask(2, TAKE, ALL));
        due(1, x.put(3, 1, 0));
        dueStates(x, 4, 0, 2, 0);
        dueGiven(x, 1, 1, NONE, NONE);
        due(NONE, x.ask(3, TAKE_NOW, ALL));
        yes(x.commit(0));
        dueStates(x, 0, 0, 0, 0);
        dueGiven(x, 1, 1, 1, NONE);
        due(0, x.entries());
    }

    private static void serviceTakesForATakerInATransaction() {
        sentence = "Terms: ask again for what they wait for (a take in a transaction)";
        Space x = new Space();
        x.begin(0);
        due(NONE, x.ask(0, TAKE, ALL));
        due(NONE, x.ask(1, READ, ALL));
        due(1, x.put(3, 1, 0));
        dueStates(x, 4, 1, 0, 0);
        dueGiven(x, 1, NONE, NONE, NONE);
        due(1, x.entries());
        due(0, x.count(3, ALL));
        yes(x.abort(0));
        dueStates(x, 0, 0, 0, 0);
        dueGiven(x, 1, 1, NONE, NONE);
        dueSights(x, 3, 1);
    }

    private static void serviceWithMarksOfOthers() {
        sentence = "Terms: the SERVICE (an entry that another transaction marked can't be taken)";
        Space x = new Space();
        x.put(0, 1, 0);
        x.begin(0);
        x.begin(1);
        x.ask(0, READ, ALL);
        x.ask(1, READ, ALL);
        due(NONE, x.ask(2, TAKE, ALL));
        yes(x.commit(0));
        due(2, x.state(2));
        yes(x.abort(1));
        due(0, x.state(2));
        due(1, x.given(2));
        due(0, x.entries());
    }

    private static void serviceWithAllFourWaiting() {
        sentence = "Terms: the waiting clients (all four)";
        Space x = new Space();
        for (int c = 3; c >= 0; c--) {
            due(NONE, x.ask(c, c % 2, ALL));
        }
        duePlaces(x, 3, 2, 1, 0);
        dueStates(x, 1, 2, 1, 2);
        for (int c = 0; c < 4; c++) {
            due(BUSY, x.put(c, 1, 0));
            no(x.begin(c));
        }
        due(0, x.pass(50));
        duePlaces(x, 3, 2, 1, 0);
        yes(x.cancel(2));
        duePlaces(x, 2, 1, NONE, 0);
        due(1, x.put(2, 1, 0));
        dueGiven(x, NONE, NONE, NONE, 1);
        duePlaces(x, 1, 0, NONE, NONE);
        due(1, x.put(2, 2, 0));
        dueGiven(x, NONE, 2, NONE, 1);
        due(1, x.put(2, 3, 0));
        dueGiven(x, 3, 2, NONE, 1);
        due(1, x.entries());
    }

    // ---- Promise 1

    private static void newObject() {
        sentence = "Promise 1: No entries, no transactions, nobody waits; the level is 1";
        Space x = new Space();
        due(0, x.entries());
        due(NONE, x.next());
        for (int c = 0; c < 4; c++) {
            due(0, x.state(c));
            due(NONE, x.place(c));
            due(NONE, x.given(c));
            due(0, x.count(c, 0));
            due(0, x.count(c, ALL));
            due(NONE, x.seen(c, 0, 0));
            due(NONE, x.seen(c, ALL, 0));
            due(NONE, x.ask(c, READ_NOW, ALL));
            due(NONE, x.ask(c, TAKE_NOW, 0));
            no(x.cancel(c));
            no(x.commit(c));
            no(x.abort(c));
        }
        due(0, x.pass(50));
        yes(x.begin(0));
        due(1, x.put(1, 0, 0));
        // A second object shares nothing with the first.
        Space y = new Space();
        due(0, y.entries());
        due(0, y.state(0));
        due(1, y.put(0, 1, 1));
        due(1, y.next());
        due(1, x.entries());
        due(NONE, x.next());
    }

    // ---- Promise 2

    private static void put() {
        putTakesTheLastValuesInside();
        putRefusesTheFirstValuesOutside();
        putSaysBadBeforeBusyBeforeFull();
        putFullThoughATakerWaits();
        lifeZeroHasNoEnd();
        theEndIsTheTimePlusLife();
        putAnswersTheNumberBeforeTheService();
        putIsPrivateIfItsClientHasATransaction();
    }

    private static void putTakesTheLastValuesInside() {
        sentence = "Promise 2: c outside 0..3, tuple outside 0..255, or life outside 0..100: BAD (inside)";
        Space x = new Space();
        due(1, x.put(0, 0, 0));
        due(2, x.put(3, 255, 100));
        due(3, x.put(1, 1, 1));
        due(4, x.put(2, 254, 99));
        due(5, x.put(0, 255, 0));
        due(6, x.put(3, 0, 100));
        dueSights(x, 2, 0, 255, 1, 254, 255, 0);
    }

    private static void putRefusesTheFirstValuesOutside() {
        sentence = "Promise 2: c outside 0..3, tuple outside 0..255, or life outside 0..100: BAD";
        Space x = new Space();
        for (int bad : outside(0, 3)) {
            due(BAD, x.put(bad, 0, 0));
            due(BAD, x.put(bad, 255, 100));
        }
        for (int bad : outside(0, 255)) {
            due(BAD, x.put(0, bad, 0));
            due(BAD, x.put(3, bad, 100));
        }
        for (int bad : outside(0, 100)) {
            due(BAD, x.put(0, 0, bad));
            due(BAD, x.put(3, 255, bad));
        }
        due(BAD, x.put(-1, -1, -1));
        due(BAD, x.put(4, 256, 101));
        due(0, x.entries());
        due(1, x.put(0, 0, 0));
    }

    private static void putSaysBadBeforeBusyBeforeFull() {
        sentence = "Promise 2: Tested in this order: .. BAD; c waits: BUSY; 20 entries are there: FULL";
        Space x = full();
        due(NONE, x.ask(1, READ, templateOf(255)));
        due(FULL, x.put(0, 255, 0));
        due(BUSY, x.put(1, 255, 0));
        due(BAD, x.put(1, 256, 0));
        due(BAD, x.put(1, -1, 0));
        due(BAD, x.put(1, 255, 101));
        due(BAD, x.put(1, 255, -1));
        due(BAD, x.put(0, 256, 0));
        due(BAD, x.put(0, 255, 101));
        due(BAD, x.put(-1, 255, 0));
        due(BAD, x.put(4, 255, 0));
        due(0, x.ask(0, TAKE_NOW, ALL));
        due(BUSY, x.put(1, 255, 0));
        due(BAD, x.put(1, 256, 0));
        due(1, x.state(1));
        due(19, x.entries());
        due(20, x.put(2, 255, 0));
        due(255, x.given(1));
        due(FULL, x.put(1, 255, 0));
    }

    private static void putFullThoughATakerWaits() {
        sentence = "Promise 2: 20 entries are there: FULL (though a waiting client would take the tuple)";
        Space x = full();
        due(NONE, x.ask(1, TAKE, templateOf(200)));
        due(FULL, x.put(0, 200, 0));
        due(2, x.state(1));
        due(NONE, x.given(1));
        due(20, x.entries());
        x.begin(0);
        due(FULL, x.put(0, 200, 0));
        due(0, x.ask(0, TAKE, ALL));
        due(FULL, x.put(0, 200, 0));
        due(FULL, x.put(2, 200, 0));
        yes(x.commit(0));
        due(20, x.put(0, 200, 0));
        due(200, x.given(1));
        due(19, x.entries());
    }

    private static void lifeZeroHasNoEnd() {
        sentence = "Promise 2: its end is none for life 0";
        Space x = new Space();
        due(1, x.put(0, 1, 0));
        due(NONE, x.next());
        for (int i = 0; i < 250; i++) {
            due(0, x.pass(50));
            due(1, x.entries());
        }
        due(2, x.put(0, 2, 0));
        due(NONE, x.next());
        due(0, x.pass(0));
        dueSights(x, 1, 1, 2);
    }

    private static void theEndIsTheTimePlusLife() {
        sentence = "Promise 2: its end is .. else the time plus life";
        for (int start : new int[] {0, 1, 50}) {
            for (int life : new int[] {1, 2, 50, 99, 100}) {
                Space x = new Space();
                x.pass(start);
                due(1, x.put(0, 1, life));
                due(life, x.next());
                for (int left = life; left > 1; left--) {
                    due(0, x.pass(1));
                    due(left - 1, x.next());
                }
                due(1, x.entries());
                due(1, x.pass(1));
                due(NONE, x.next());
                due(0, x.entries());
            }
        }
    }

    private static void putAnswersTheNumberBeforeTheService() {
        sentence = "Promise 2: the number of entries that are there then (before the service)";
        Space x = new Space();
        due(NONE, x.ask(1, TAKE, ALL));
        due(1, x.put(0, 1, 0));
        due(0, x.entries());
        due(1, x.put(0, 1, 0));
        for (int i = 2; i <= 19; i++) {
            due(i, x.put(0, 1, 0));
        }
        due(NONE, x.ask(1, TAKE, templateOf(2)));
        due(20, x.put(0, 2, 0));
        due(2, x.given(1));
        due(19, x.entries());
        due(20, x.put(0, 2, 0));
        due(FULL, x.put(0, 2, 0));
    }

    private static void putIsPrivateIfItsClientHasATransaction() {
        sentence = "Promise 2: it is private if the client has a transaction";
        Space x = new Space();
        x.put(0, 1, 0);
        x.begin(0);
        x.put(0, 2, 0);
        x.put(1, 3, 0);
        dueSights(x, 0, 1, 2, 3);
        dueSights(x, 1, 1, 3);
        yes(x.commit(0));
        x.put(0, 4, 0);
        dueSights(x, 1, 1, 2, 3, 4);
    }

    // ---- Promise 3

    private static void ask() {
        askTakesTheLastValuesInside();
        askRefusesTheFirstValuesOutside();
        askSaysBadBeforeBusy();
        askSaysBusyBeforeItGives();
        askSaysNoneWhenNothingIsThere();
        askSaysNoneWhenNothingFits();
        askSaysNoneWhenNothingIsSeenOrFree();
        askAnswersTheTupleZero();
    }

    private static void askTakesTheLastValuesInside() {
        sentence = "Promise 3: c outside 0..3, how outside 0..3, or template outside 0..288: BAD (inside)";
        Space x = new Space();
        x.put(0, 0, 0);
        x.put(0, 255, 0);
        for (int c = 0; c < 4; c++) {
            due(0, x.ask(c, READ, 0));
            due(0, x.ask(c, READ_NOW, 288));
            due(0, x.ask(c, READ, template(0, ANY)));
            due(255, x.ask(c, READ_NOW, 287));
            due(NONE, x.ask(c, READ_NOW, 1));
            due(NONE, x.ask(c, TAKE_NOW, 1));
        }
        due(255, x.ask(0, TAKE, 287));
        due(0, x.ask(3, TAKE_NOW, 0));
        due(0, x.entries());
    }

    private static void askRefusesTheFirstValuesOutside() {
        sentence = "Promise 3: c outside 0..3, how outside 0..3, or template outside 0..288: BAD";
        Space x = new Space();
        x.put(0, 0, 0);
        for (int how = 0; how < 4; how++) {
            for (int bad : outside(0, 3)) {
                due(BAD, x.ask(bad, how, 0));
                due(BAD, x.ask(how, bad, 0));
                due(BAD, x.ask(how, bad, ALL));
            }
            for (int bad : outside(0, 288)) {
                due(BAD, x.ask(0, how, bad));
                due(BAD, x.ask(3, how, bad));
            }
        }
        due(BAD, x.ask(-1, -1, -1));
        due(BAD, x.ask(4, 4, 289));
        dueStates(x, 0, 0, 0, 0);
        dueGiven(x, NONE, NONE, NONE, NONE);
        dueSights(x, 3, 0);
    }

    private static void askSaysBadBeforeBusy() {
        sentence = "Promise 3: Tested in this order: .. BAD; c waits: BUSY";
        Space x = new Space();
        due(NONE, x.ask(2, TAKE, 5));
        for (int bad : outside(0, 3)) {
            due(BAD, x.ask(2, bad, 5));
        }
        for (int how = 0; how < 4; how++) {
            due(BAD, x.ask(2, how, -1));
            due(BAD, x.ask(2, how, 289));
            due(BUSY, x.ask(2, how, 0));
            due(BUSY, x.ask(2, how, 288));
        }
        dueStates(x, 0, 0, 2, 0);
        due(0, x.place(2));
        // It still waits for what it asked for first.
        due(1, x.put(0, 4, 0));
        due(2, x.state(2));
        due(2, x.put(0, 5, 0));
        due(5, x.given(2));
    }

    private static void askSaysBusyBeforeItGives() {
        sentence = "Promise 3: c waits: BUSY; nothing can be given: NONE (BUSY is tested first)";
        Space x = new Space();
        x.put(0, 1, 0);
        due(NONE, x.ask(2, READ, 5));
        due(NONE, x.ask(3, TAKE, 5));
        for (int how = 0; how < 4; how++) {
            due(BUSY, x.ask(2, how, 1));
            due(BUSY, x.ask(3, how, 1));
            due(BUSY, x.ask(2, how, 7));
            due(BUSY, x.ask(3, how, 7));
        }
        dueStates(x, 0, 0, 1, 2);
        duePlaces(x, NONE, NONE, 0, 1);
        dueGiven(x, NONE, NONE, NONE, NONE);
        due(1, x.entries());
        yes(x.cancel(2));
        due(1, x.ask(2, READ_NOW, 1));
    }

    private static void askSaysNoneWhenNothingIsThere() {
        sentence = "Promise 3: nothing can be given: NONE (and it waits now, for how 0 and 1)";
        for (int c = 0; c < 4; c++) {
            for (int how = 0; how < 4; how++) {
                Space x = new Space();
                due(NONE, x.ask(c, how, ALL));
                due(how < 2 ? how + 1 : 0, x.state(c));
                due(how < 2 ? 0 : NONE, x.place(c));
                due(how < 2 ? BUSY : NONE, x.ask(c, READ_NOW, ALL));
                x.begin((c + 1) % 4);
                x.commit((c + 1) % 4);
                due(1, x.put((c + 1) % 4, 9, 0));
                due(how < 2 ? 9 : NONE, x.given(c));
                due(how == TAKE ? 0 : 1, x.entries());
                due(0, x.state(c));
            }
        }
    }

    private static void askSaysNoneWhenNothingFits() {
        sentence = "Promise 3: nothing can be given: NONE (20 entries are there and none fits)";
        Space x = full();
        due(NONE, x.ask(0, READ, templateOf(255)));
        due(NONE, x.ask(1, TAKE, template(2, ANY)));
        due(NONE, x.ask(2, READ_NOW, template(1, 4)));
        due(NONE, x.ask(3, TAKE_NOW, template(15, ANY)));
        dueStates(x, 1, 2, 0, 0);
        due(19, x.ask(2, TAKE_NOW, template(1, 3)));
        due(20, x.put(2, 32, 0));
        due(32, x.given(1));
        dueStates(x, 1, 0, 0, 0);
    }

    private static void askSaysNoneWhenNothingIsSeenOrFree() {
        sentence = "Promise 3: nothing can be given: NONE (taken, private or marked)";
        Space x = new Space();
        x.put(0, 1, 0);
        x.put(0, 2, 0);
        x.begin(0);
        x.put(0, 3, 0);
        x.ask(0, TAKE, 1);
        x.ask(0, READ, 2);
        due(NONE, x.ask(1, READ, 1));
        due(NONE, x.ask(2, READ, 3));
        due(NONE, x.ask(3, TAKE, 2));
        dueStates(x, 4, 1, 1, 2);
        yes(x.cancel(3));
        due(2, x.ask(3, READ, 2));
        due(NONE, x.ask(0, TAKE_NOW, 1));
        due(4, x.state(0));
        due(2, x.ask(0, TAKE, 2));
        due(3, x.ask(0, TAKE, 3));
        due(2, x.entries());
    }

    private static void askAnswersTheTupleZero() {
        sentence = "Promise 3: Else answers the tuple given (tuple 0)";
        Space x = new Space();
        x.put(0, 0, 0);
        for (int how = 0; how < 4; how++) {
            due(0, x.ask(1, how, ALL));
            due(0, x.state(1));
            due(0, x.given(1));
            x.put(0, 0, 0);
        }
    }

    // ---- Promise 4

    private static void given() {
        sentence = "Promise 4: NONE if none was; BAD for c outside 0..3";
        Space x = new Space();
        dueGiven(x, NONE, NONE, NONE, NONE);
        for (int bad : outside(0, 3)) {
            due(BAD, x.given(bad));
        }
        due(NONE, x.ask(0, READ_NOW, ALL));
        due(NONE, x.ask(1, TAKE, ALL));
        due(BUSY, x.ask(1, TAKE, ALL));
        dueGiven(x, NONE, NONE, NONE, NONE);
        due(1, x.put(3, 0, 0));
        dueGiven(x, NONE, 0, NONE, NONE);
        due(1, x.put(3, 255, 1));
        due(255, x.ask(0, READ_NOW, ALL));
        due(2, x.put(3, 7, 1));
        due(7, x.ask(0, READ_NOW, templateOf(7)));
        dueGiven(x, 7, 0, NONE, NONE);
        due(2, x.pass(1));
        due(NONE, x.ask(0, READ_NOW, ALL));
        due(0, x.count(0, ALL));
        dueGiven(x, 7, 0, NONE, NONE);
        for (int bad : outside(0, 3)) {
            due(BAD, x.given(bad));
        }
        givenOutlastsTransactions();
    }

    private static void givenOutlastsTransactions() {
        sentence = "Promise 4: The tuple that was given to a client last";
        Space x = new Space();
        x.put(0, 8, 0);
        x.begin(2);
        due(8, x.ask(2, TAKE, ALL));
        yes(x.abort(2));
        due(8, x.given(2));
        yes(x.begin(2));
        x.put(2, 9, 0);
        due(9, x.ask(2, READ, 9));
        yes(x.commit(2));
        due(9, x.given(2));
        due(NONE, x.ask(2, READ, 10));
        yes(x.cancel(2));
        due(9, x.given(2));
        due(8, x.seen(2, ALL, 0));
        due(9, x.given(2));
    }

    // ---- Promise 5

    private static void begin() {
        sentence = "Promise 5: c outside 0..3, waiting, or with a transaction: refused, answers false. Else true";
        Space x = new Space();
        for (int bad : outside(0, 3)) {
            no(x.begin(bad));
        }
        dueStates(x, 0, 0, 0, 0);
        for (int c = 0; c < 4; c++) {
            yes(x.begin(c));
            no(x.begin(c));
        }
        dueStates(x, 4, 4, 4, 4);
        for (int bad : outside(0, 3)) {
            no(x.begin(bad));
        }
        due(NONE, x.ask(0, READ, ALL));
        due(NONE, x.ask(3, TAKE, ALL));
        no(x.begin(0));
        no(x.begin(3));
        dueStates(x, 5, 4, 4, 6);

        Space y = new Space();
        due(NONE, y.ask(0, READ, ALL));
        due(NONE, y.ask(3, TAKE, ALL));
        no(y.begin(0));
        no(y.begin(3));
        dueStates(y, 1, 0, 0, 2);
        y.cancel(0);
        yes(y.begin(0));
        due(1, y.put(1, 1, 0));
        yes(y.begin(3));
        yes(y.commit(3));
        yes(y.begin(3));
        yes(y.abort(3));
        yes(y.begin(3));
        aSecondBeginKeepsTheFirstTransaction();
    }

    private static void aSecondBeginKeepsTheFirstTransaction() {
        sentence = "Promise 5: with a transaction: refused (the transaction goes on as it was)";
        Space x = new Space();
        x.put(0, 1, 0);
        x.put(0, 2, 0);
        x.begin(0);
        x.put(0, 3, 0);
        x.ask(0, TAKE, 1);
        x.ask(0, READ, 2);
        no(x.begin(0));
        due(3, x.entries());
        dueSights(x, 1, 2);
        dueSights(x, 0, 2, 3);
        due(NONE, x.ask(1, TAKE_NOW, 2));
        yes(x.abort(0));
        dueSights(x, 1, 1, 2);
    }

    // ---- Promise 6

    private static void commit() {
        commitRefuses();
        commitOfAnEmptyTransaction();
        commitEndsPrivateTakenAndMarked();
        commitLeavesOtherTransactionsAlone();
        commitOfTwentyPrivateEntries();
    }

    private static void commitRefuses() {
        sentence = "Promise 6: c outside 0..3, waiting, or without a transaction: refused, answers false";
        Space x = new Space();
        for (int bad : outside(0, 3)) {
            no(x.commit(bad));
        }
        for (int c = 0; c < 4; c++) {
            no(x.commit(c));
            yes(x.begin(c));
            yes(x.commit(c));
            no(x.commit(c));
            due(0, x.state(c));
        }
        due(NONE, x.ask(0, READ, ALL));
        no(x.commit(0));
        due(1, x.state(0));
        yes(x.begin(3));
        due(1, x.put(3, 7, 0));
        due(NONE, x.ask(3, TAKE, 5));
        no(x.commit(3));
        due(6, x.state(3));
        due(0, x.count(1, ALL));
        yes(x.cancel(3));
        yes(x.commit(3));
        due(1, x.count(1, ALL));
        due(7, x.given(0));
        for (int bad : outside(0, 3)) {
            no(x.commit(bad));
        }
    }

    private static void commitOfAnEmptyTransaction() {
        sentence = "Promise 6: Its transaction ends (nothing in it)";
        Space x = new Space();
        yes(x.begin(0));
        yes(x.commit(0));
        due(0, x.entries());
        due(0, x.state(0));
        x.put(0, 1, 0);
        yes(x.begin(0));
        yes(x.commit(0));
        dueSights(x, 0, 1);
        due(1, x.ask(1, TAKE_NOW, ALL));
    }

    private static void commitEndsPrivateTakenAndMarked() {
        sentence = "Promise 6: private entries are private no more, taken ones go, marks go";
        Space x = new Space();
        x.put(1, 1, 0);
        x.put(1, 2, 0);
        x.put(1, 3, 0);
        x.begin(0);
        x.put(0, 4, 0);
        x.put(1, 5, 0);
        x.put(0, 6, 0);
        due(1, x.ask(0, TAKE, 1));
        due(2, x.ask(0, READ, 2));
        due(3, x.ask(0, TAKE, 3));
        due(6, x.ask(0, READ, 6));
        due(6, x.entries());
        dueSights(x, 1, 2, 5);
        dueSights(x, 0, 2, 4, 5, 6);
        yes(x.commit(0));
        due(4, x.entries());
        for (int c = 0; c < 4; c++) {
            dueSights(x, c, 2, 4, 5, 6);
        }
        due(2, x.ask(1, TAKE_NOW, ALL));
        due(4, x.ask(1, TAKE_NOW, ALL));
        due(5, x.ask(1, TAKE_NOW, ALL));
        due(6, x.ask(1, TAKE_NOW, ALL));
        // What was private once goes with a later transaction only if taken.
        x.put(0, 7, 0);
        x.begin(0);
        yes(x.abort(0));
        dueSights(x, 1, 7);
    }

    private static void commitLeavesOtherTransactionsAlone() {
        sentence = "Promise 6: Its transaction ends (and no other)";
        Space x = new Space();
        x.put(0, 1, 0);
        x.put(0, 2, 0);
        x.begin(1);
        x.begin(2);
        x.put(1, 3, 0);
        x.ask(1, TAKE, 1);
        x.ask(1, READ, 2);
        x.ask(2, READ, 2);
        yes(x.commit(2));
        dueStates(x, 0, 4, 0, 0);
        due(3, x.entries());
        dueSights(x, 2, 2);
        dueSights(x, 1, 2, 3);
        due(NONE, x.ask(2, TAKE_NOW, ALL));
        yes(x.abort(1));
        dueSights(x, 2, 1, 2);
        due(1, x.ask(2, TAKE_NOW, ALL));
        due(2, x.ask(2, TAKE_NOW, ALL));
    }

    private static void commitOfTwentyPrivateEntries() {
        sentence = "Promise 6: private entries are private no more (all 20)";
        Space x = new Space();
        x.begin(3);
        for (int i = 0; i < MOST; i++) {
            due(i + 1, x.put(3, i, 0));
        }
        due(FULL, x.put(3, 20, 0));
        due(0, x.count(0, ALL));
        due(NONE, x.ask(0, TAKE, ALL));
        due(NONE, x.ask(1, READ, templateOf(19)));
        yes(x.commit(3));
        dueGiven(x, 0, 19, NONE, NONE);
        due(19, x.count(2, ALL));
    }

    // ---- Promise 7

    private static void abort() {
        abortRefuses();
        abortOfAnEmptyTransaction();
        abortEndsPrivateTakenAndMarked();
        abortLeavesOtherTransactionsAlone();
        abortOfTwentyPrivateEntries();
    }

    private static void abortRefuses() {
        sentence = "Promise 7: c outside 0..3, waiting, or without a transaction: refused, answers false";
        Space x = new Space();
        for (int bad : outside(0, 3)) {
            no(x.abort(bad));
        }
        for (int c = 0; c < 4; c++) {
            no(x.abort(c));
            yes(x.begin(c));
            yes(x.abort(c));
            no(x.abort(c));
            due(0, x.state(c));
        }
        due(NONE, x.ask(0, READ, ALL));
        no(x.abort(0));
        due(1, x.state(0));
        yes(x.begin(3));
        due(1, x.put(3, 7, 0));
        due(NONE, x.ask(3, TAKE, 5));
        no(x.abort(3));
        due(6, x.state(3));
        due(1, x.entries());
        due(1, x.count(3, ALL));
        yes(x.cancel(3));
        yes(x.abort(3));
        due(0, x.entries());
        for (int bad : outside(0, 3)) {
            no(x.abort(bad));
        }
    }

    private static void abortOfAnEmptyTransaction() {
        sentence = "Promise 7: Its transaction ends (nothing in it)";
        Space x = new Space();
        yes(x.begin(0));
        yes(x.abort(0));
        due(0, x.entries());
        due(0, x.state(0));
        x.put(0, 1, 0);
        yes(x.begin(0));
        yes(x.abort(0));
        dueSights(x, 0, 1);
        due(1, x.ask(1, TAKE_NOW, ALL));
    }

    private static void abortEndsPrivateTakenAndMarked() {
        sentence = "Promise 7: private entries go, taken ones are taken no more, marks go";
        Space x = new Space();
        x.put(1, 1, 0);
        x.put(1, 2, 0);
        x.put(1, 3, 0);
        x.begin(0);
        x.put(0, 4, 0);
        x.put(1, 5, 0);
        x.put(0, 6, 0);
        due(1, x.ask(0, TAKE, 1));
        due(2, x.ask(0, READ, 2));
        due(3, x.ask(0, READ, 3));
        due(3, x.ask(0, TAKE, 3));
        due(6, x.ask(0, READ, 6));
        due(6, x.entries());
        yes(x.abort(0));
        due(4, x.entries());
        for (int c = 0; c < 4; c++) {
            dueSights(x, c, 1, 2, 3, 5);
        }
        due(1, x.ask(1, TAKE_NOW, ALL));
        due(2, x.ask(1, TAKE_NOW, ALL));
        due(3, x.ask(1, TAKE_NOW, ALL));
        due(5, x.ask(1, TAKE_NOW, ALL));
        due(0, x.entries());
    }

    private static void abortLeavesOtherTransactionsAlone() {
        sentence = "Promise 7: Its transaction ends (and no other)";
        Space x = new Space();
        x.put(0, 1, 0);
        x.put(0, 2, 0);
        x.begin(1);
        x.begin(2);
        x.put(1, 3, 0);
        x.put(2, 4, 0);
        x.ask(1, TAKE, 1);
        x.ask(1, READ, 2);
        x.ask(2, READ, 2);
        yes(x.abort(2));
        dueStates(x, 0, 4, 0, 0);
        due(3, x.entries());
        dueSights(x, 2, 2);
        dueSights(x, 1, 2, 3);
        due(NONE, x.ask(2, TAKE_NOW, ALL));
        yes(x.commit(1));
        dueSights(x, 2, 2, 3);
        due(2, x.ask(2, TAKE_NOW, ALL));
    }

    private static void abortOfTwentyPrivateEntries() {
        sentence = "Promise 7: private entries go (all 20)";
        Space x = new Space();
        x.begin(3);
        for (int i = 0; i < MOST; i++) {
            due(i + 1, x.put(3, i, i));
        }
        due(1, x.next());
        due(NONE, x.ask(0, TAKE, ALL));
        yes(x.abort(3));
        due(0, x.entries());
        due(NONE, x.next());
        due(2, x.state(0));
        due(1, x.put(3, 1, 0));
        due(1, x.given(0));
    }

    // ---- Promise 8

    private static void cancel() {
        sentence = "Promise 8: false if it did not, or c is outside 0..3";
        Space x = new Space();
        for (int bad : outside(0, 3)) {
            no(x.cancel(bad));
        }
        for (int c = 0; c < 4; c++) {
            no(x.cancel(c));
            due(NONE, x.ask(c, c % 2, ALL));
            yes(x.cancel(c));
            no(x.cancel(c));
            due(0, x.state(c));
        }
        for (int c = 0; c < 4; c++) {
            due(NONE, x.ask(c, TAKE, ALL));
        }
        for (int bad : outside(0, 3)) {
            no(x.cancel(bad));
        }
        duePlaces(x, 0, 1, 2, 3);
        yes(x.cancel(3));
        duePlaces(x, 0, 1, 2, NONE);
        yes(x.cancel(0));
        duePlaces(x, NONE, 0, 1, NONE);
        due(1, x.put(0, 5, 0));
        no(x.cancel(1));
        due(5, x.given(1));
        yes(x.cancel(2));
        due(1, x.put(0, 6, 0));
        dueGiven(x, NONE, 5, NONE, NONE);
        no(x.cancel(2));
        cancelKeepsTheTransaction();
    }

    private static void cancelKeepsTheTransaction() {
        sentence = "Promise 8: The client waits no longer (its transaction goes on)";
        Space x = new Space();
        x.begin(1);
        x.put(1, 5, 0);
        due(NONE, x.ask(1, TAKE, 6));
        yes(x.cancel(1));
        due(4, x.state(1));
        due(1, x.count(1, ALL));
        due(0, x.count(0, ALL));
        yes(x.commit(1));
        due(1, x.count(0, ALL));
    }

    // ---- Promise 9

    private static void pass() {
        passTakesTheLastValuesInside();
        passRefusesTheFirstValuesOutside();
        anEndAtTheTimeGoes();
        allTwentyGoAtOnce();
        entriesGoWhateverTheyAre();
        whatEndedInATransactionComesNotBack();
    }

    private static void passTakesTheLastValuesInside() {
        sentence = "Promise 9: n outside 0..50: BAD (inside)";
        Space x = new Space();
        x.put(0, 1, 100);
        due(0, x.pass(0));
        due(100, x.next());
        due(0, x.pass(1));
        due(99, x.next());
        due(0, x.pass(49));
        due(50, x.next());
        due(1, x.pass(50));
        due(0, x.pass(50));
    }

    private static void passRefusesTheFirstValuesOutside() {
        sentence = "Promise 9: n outside 0..50: BAD, and nothing happens";
        Space x = new Space();
        x.put(0, 1, 1);
        x.put(0, 2, 100);
        due(NONE, x.ask(1, TAKE, 9));
        for (int bad : outside(0, 50)) {
            due(BAD, x.pass(bad));
            due(1, x.next());
            due(2, x.entries());
            due(2, x.state(1));
        }
        due(1, x.pass(1));
        due(99, x.next());
        // The time did not grow: a new end counts from it.
        due(BAD, x.pass(51));
        due(2, x.put(0, 3, 10));
        due(10, x.next());
        due(0, x.pass(9));
        due(1, x.pass(1));
        due(89, x.next());
    }

    private static void anEndAtTheTimeGoes() {
        sentence = "Promise 9: entries whose end is at most the time go";
        Space x = new Space();
        x.put(0, 1, 9);
        x.put(0, 2, 10);
        x.put(0, 3, 11);
        x.put(0, 4, 0);
        x.put(0, 5, 10);
        due(0, x.pass(8));
        due(3, x.pass(2));
        dueSights(x, 0, 3, 4);
        due(0, x.pass(0));
        due(1, x.pass(1));
        dueSights(x, 0, 4);
        due(0, x.pass(50));
        dueSights(x, 0, 4);
    }

    private static void allTwentyGoAtOnce() {
        sentence = "Promise 9: Else answers how many went (none, and all 20)";
        Space x = new Space();
        due(0, x.pass(50));
        for (int i = 0; i < MOST; i++) {
            due(i + 1, x.put(i % 4, i, 1 + i));
        }
        due(FULL, x.put(0, 1, 1));
        due(0, x.pass(0));
        due(20, x.pass(20));
        due(0, x.entries());
        due(NONE, x.next());
        due(0, x.pass(50));
        for (int i = 0; i < MOST; i++) {
            due(i + 1, x.put(i % 4, i, 1 + i % 2));
        }
        due(10, x.pass(1));
        for (int k = 0; k < 10; k++) {
            due(2 * k + 1, x.seen(0, ALL, k));
        }
        due(10, x.pass(1));
        due(0, x.entries());
    }

    private static void entriesGoWhateverTheyAre() {
        sentence = "Promise 9: entries whose end is at most the time go, whatever they are";
        Space x = new Space();
        x.put(0, 1, 5);
        x.put(0, 2, 5);
        x.put(0, 3, 5);
        x.begin(1);
        x.begin(2);
        x.put(1, 4, 5);
        due(1, x.ask(1, TAKE, 1));
        due(2, x.ask(1, READ, 2));
        due(2, x.ask(2, READ, 2));
        due(4, x.ask(1, READ, 4));
        due(4, x.entries());
        due(0, x.pass(4));
        due(1, x.next());
        due(4, x.pass(1));
        due(0, x.entries());
        dueStates(x, 0, 4, 4, 0);
        yes(x.abort(1));
        yes(x.commit(2));
        due(0, x.entries());
    }

    private static void whatEndedInATransactionComesNotBack() {
        sentence = "Promise 9: entries .. go, whatever they are (those that stay keep what they were)";
        Space x = new Space();
        x.put(0, 1, 5);
        x.put(0, 2, 0);
        x.begin(1);
        x.put(1, 3, 5);
        x.put(1, 4, 0);
        x.put(0, 5, 5);
        x.put(0, 6, 0);
        x.put(0, 7, 0);
        due(1, x.ask(1, TAKE, 1));
        due(2, x.ask(1, TAKE, 2));
        due(6, x.ask(1, READ, 6));
        due(3, x.pass(5));
        due(4, x.entries());
        dueSights(x, 0, 6, 7);
        dueSights(x, 1, 4, 6, 7);
        due(7, x.ask(0, TAKE_NOW, ALL));
        due(NONE, x.ask(0, TAKE_NOW, ALL));
        yes(x.abort(1));
        dueSights(x, 0, 2, 6);
        due(2, x.ask(0, TAKE_NOW, ALL));
        due(6, x.ask(0, TAKE_NOW, ALL));
    }

    // ---- Promises 10 and 11

    private static void countAndSeen() {
        countAndSeenRefuse();
        countOfNothingAndOfTwenty();
        seenFromZeroTheOldestFirst();
        countAndSeenChangeNothing();
    }

    private static void countAndSeenRefuse() {
        sentence = "Promises 10, 11: BAD for c outside 0..3 or template outside 0..288";
        Space x = new Space();
        x.put(0, 0, 0);
        x.put(0, 255, 0);
        for (int c = 0; c < 4; c++) {
            due(1, x.count(c, 0));
            due(2, x.count(c, 288));
            due(0, x.seen(c, 0, 0));
            due(255, x.seen(c, 288, 1));
            due(1, x.count(c, 287));
            due(255, x.seen(c, 287, 0));
            for (int bad : outside(0, 288)) {
                due(BAD, x.count(c, bad));
                due(BAD, x.seen(c, bad, 0));
            }
        }
        for (int bad : outside(0, 3)) {
            due(BAD, x.count(bad, 0));
            due(BAD, x.count(bad, 288));
            due(BAD, x.count(bad, 289));
            due(BAD, x.seen(bad, 0, 0));
            due(BAD, x.seen(bad, 288, 1));
            due(BAD, x.seen(bad, -1, 1));
        }
    }

    private static void countOfNothingAndOfTwenty() {
        sentence = "Promise 10: The number of entries that a client sees and that fit (none, and 20)";
        Space x = new Space();
        due(0, x.count(0, ALL));
        due(0, x.count(3, 0));
        Space y = full();
        due(20, y.count(0, ALL));
        due(16, y.count(1, template(0, ANY)));
        due(4, y.count(2, template(1, ANY)));
        due(0, y.count(3, template(2, ANY)));
        due(2, y.count(3, template(ANY, 3)));
        due(1, y.count(3, template(ANY, 4)));
        due(1, y.count(3, template(ANY, 15)));
        Space z = new Space();
        for (int i = 0; i < MOST; i++) {
            z.put(0, 77, 0);
        }
        due(20, z.count(3, templateOf(77)));
        due(77, z.seen(3, templateOf(77), 19));
        due(NONE, z.seen(3, templateOf(77), 20));
    }

    private static void seenFromZeroTheOldestFirst() {
        sentence = "Promise 11: entry number k of these, from 0, the oldest first; .. NONE if there is none";
        Space x = new Space();
        due(NONE, x.seen(0, ALL, 0));
        for (int bad : outside(0, 0)) {
            due(NONE, x.seen(0, ALL, bad));
        }
        x.put(0, 0, 0);
        due(0, x.seen(0, ALL, 0));
        for (int bad : outside(0, 0)) {
            due(NONE, x.seen(0, ALL, bad));
        }
        Space y = full();
        for (int k = 0; k < MOST; k++) {
            due(k, y.seen(k % 4, ALL, k));
        }
        for (int bad : outside(0, 19)) {
            due(NONE, y.seen(1, ALL, bad));
        }
        for (int k = 0; k < 4; k++) {
            due(16 + k, y.seen(1, template(1, ANY), k));
        }
        for (int bad : outside(0, 3)) {
            due(NONE, y.seen(1, template(1, ANY), bad));
        }
        due(3, y.seen(1, template(ANY, 3), 0));
        due(19, y.seen(1, template(ANY, 3), 1));
        due(NONE, y.seen(1, template(ANY, 3), 2));
    }

    private static void countAndSeenChangeNothing() {
        sentence = "Promises 10, 11: count and seen neither give nor mark";
        Space x = new Space();
        x.put(0, 1, 0);
        x.begin(1);
        due(1, x.count(1, ALL));
        due(1, x.seen(1, ALL, 0));
        due(NONE, x.given(1));
        due(1, x.ask(0, TAKE_NOW, ALL));
        // A client that waits may look.
        due(NONE, x.ask(2, TAKE, 9));
        due(1, x.put(0, 3, 0));
        due(1, x.count(2, ALL));
        due(3, x.seen(2, ALL, 0));
        due(2, x.state(2));
    }

    // ---- Promises 12 and 13

    private static void stateAndPlace() {
        stateTells();
        placeTells();
    }

    private static void stateTells() {
        sentence = "Promise 12: 0 .. 1 .. 2 ..; plus 4 if it has a transaction; BAD for c outside 0..3";
        Space x = new Space();
        for (int c = 0; c < 4; c++) {
            due(0, x.state(c));
            due(NONE, x.ask(c, READ, ALL));
            due(1, x.state(c));
            x.cancel(c);
            due(NONE, x.ask(c, TAKE, ALL));
            due(2, x.state(c));
            x.cancel(c);
            x.begin(c);
            due(4, x.state(c));
            due(NONE, x.ask(c, READ, ALL));
            due(5, x.state(c));
            x.cancel(c);
            due(NONE, x.ask(c, TAKE, ALL));
            due(6, x.state(c));
            for (int bad : outside(0, 3)) {
                due(BAD, x.state(bad));
            }
        }
        dueStates(x, 6, 6, 6, 6);
    }

    private static void placeTells() {
        sentence = "Promise 13: NONE if it does not wait; BAD for c outside 0..3";
        Space x = new Space();
        duePlaces(x, NONE, NONE, NONE, NONE);
        for (int bad : outside(0, 3)) {
            due(BAD, x.place(bad));
        }
        due(NONE, x.ask(2, READ, 1));
        duePlaces(x, NONE, NONE, 0, NONE);
        due(NONE, x.ask(0, TAKE, 2));
        due(NONE, x.ask(1, READ_NOW, 3));
        due(NONE, x.ask(3, READ, 3));
        due(NONE, x.ask(1, TAKE, 4));
        duePlaces(x, 1, 3, 0, 2);
        for (int bad : outside(0, 3)) {
            due(BAD, x.place(bad));
        }
        sentence = "Promise 13: How many clients began to wait before a client that waits and still do";
        due(BUSY, x.ask(2, READ, 1));
        duePlaces(x, 1, 3, 0, 2);
        yes(x.cancel(3));
        duePlaces(x, 1, 2, 0, NONE);
        due(1, x.put(3, 1, 0));
        duePlaces(x, 0, 1, NONE, NONE);
        due(NONE, x.ask(2, READ, 9));
        due(NONE, x.ask(3, READ, 9));
        duePlaces(x, 0, 1, 2, 3);
        yes(x.cancel(0));
        duePlaces(x, NONE, 0, 1, 2);
        due(NONE, x.ask(0, READ, 9));
        duePlaces(x, 3, 0, 1, 2);
    }

    // ---- Promises 14 and 15

    private static void entriesAndNext() {
        entriesCountsUnseenOnes();
        nextWithoutAnEnd();
        nextIsTheSoonestEnd();
        nextCountsUnseenOnes();
    }

    private static void entriesCountsUnseenOnes() {
        sentence = "Promise 14: The number of entries that are there (seen or not)";
        Space x = new Space();
        due(0, x.entries());
        x.put(0, 1, 0);
        due(1, x.entries());
        x.begin(1);
        x.put(1, 2, 0);
        due(2, x.entries());
        x.ask(1, TAKE, 1);
        due(2, x.entries());
        due(0, x.count(0, ALL));
        x.ask(1, TAKE, 2);
        due(1, x.entries());
        due(0, x.count(1, ALL));
        yes(x.commit(1));
        due(0, x.entries());
        due(20, full().entries());
    }

    private static void nextWithoutAnEnd() {
        sentence = "Promise 15: NONE if no entry has one";
        Space x = new Space();
        due(NONE, x.next());
        x.put(0, 1, 0);
        due(NONE, x.next());
        due(NONE, full().next());
        x.put(0, 2, 1);
        due(1, x.next());
        due(2, x.ask(1, TAKE_NOW, 2));
        due(NONE, x.next());
        x.put(0, 2, 1);
        due(1, x.pass(50));
        due(NONE, x.next());
        due(1, x.entries());
    }

    private static void nextIsTheSoonestEnd() {
        sentence = "Promise 15: The time until the next entry goes by its end";
        Space x = new Space();
        x.put(0, 1, 100);
        due(100, x.next());
        x.put(0, 2, 99);
        due(99, x.next());
        x.put(0, 3, 100);
        due(99, x.next());
        x.put(0, 4, 1);
        due(1, x.next());
        x.put(0, 5, 0);
        due(1, x.next());
        x.put(0, 6, 2);
        due(1, x.next());
        due(0, x.pass(0));
        due(1, x.next());
        due(1, x.pass(1));
        due(1, x.next());
        due(1, x.pass(1));
        due(97, x.next());
        due(0, x.pass(50));
        due(47, x.next());
        due(1, x.pass(47));
        due(1, x.next());
        due(2, x.pass(50));
        due(NONE, x.next());
    }

    private static void nextCountsUnseenOnes() {
        sentence = "Promise 15: the next entry (seen or not)";
        Space x = new Space();
        x.put(0, 1, 30);
        x.put(0, 2, 40);
        x.begin(1);
        x.put(1, 3, 20);
        due(20, x.next());
        due(1, x.ask(1, TAKE, 1));
        due(20, x.next());
        due(3, x.ask(1, TAKE, 3));
        due(30, x.next());
        yes(x.commit(1));
        due(40, x.next());
    }

    // ---- Promise 16

    private static void level() {
        levelRefuses();
        theLevelShowsInNoAnswer();
    }

    private static void levelRefuses() {
        sentence = "Promise 16: k outside 0..1: refused, answers false. Else true";
        Space x = new Space();
        for (int bad : outside(0, 1)) {
            no(x.level(bad));
        }
        for (int k : new int[] {0, 0, 1, 1, 0, 1}) {
            yes(x.level(k));
            for (int bad : outside(0, 1)) {
                no(x.level(bad));
            }
        }
    }

    // The same calls at each level, and with the level changed on the way.
    private static void theLevelShowsInNoAnswer() {
        sentence = "Promise 16: It shows in no answer";
        for (int way = 0; way < 6; way++) {
            Space x = new Space();
            setLevel(x, way, 0);
            due(NONE, x.ask(3, TAKE, template(4, ANY)));
            x.put(0, tuple(1, 2), 0);
            x.put(0, tuple(2, 1), 5);
            x.put(0, tuple(1, 3), 0);
            setLevel(x, way, 1);
            x.begin(1);
            x.put(1, tuple(3, 3), 0);
            due(tuple(1, 2), x.ask(1, TAKE, template(1, ANY)));
            due(1, x.count(0, template(1, ANY)));
            due(0, x.count(0, template(3, ANY)));
            due(1, x.count(1, template(3, ANY)));
            setLevel(x, way, 2);
            due(tuple(1, 3), x.ask(0, TAKE_NOW, template(1, ANY)));
            due(NONE, x.ask(0, READ_NOW, template(1, ANY)));
            due(1, x.count(1, template(3, ANY)));
            due(1, x.pass(5));
            due(0, x.count(2, template(2, ANY)));
            setLevel(x, way, 3);
            yes(x.abort(1));
            dueSights(x, 2, tuple(1, 2));
            due(0, x.count(1, template(3, ANY)));
            due(2, x.put(0, tuple(4, 15), 0));
            due(tuple(4, 15), x.given(3));
            due(0, x.count(0, template(4, ANY)));
            due(tuple(1, 2), x.ask(0, READ_NOW, template(1, 2)));
            due(NONE, x.ask(0, READ_NOW, template(0, 2)));
            due(1, x.entries());
            dueStates(x, 0, 0, 0, 0);
        }
    }

    // Way 0 leaves the level of a new object; 1 and 2 keep one; 3 and 4
    // change it at each step; 5 tries levels that are refused.
    private static void setLevel(Space x, int way, int step) {
        if (way == 1 || way == 2) {
            yes(x.level(way - 1));
        } else if (way == 3 || way == 4) {
            yes(x.level((way + step) % 2));
        } else if (way == 5) {
            no(x.level(2 + step));
            no(x.level(-1 - step));
        }
    }

    // ---- Promise 17

    private static void orderAndLimits() {
        sentence = "Promise 17: given, seen, place: BAD is tested before NONE";
        Space x = new Space();
        for (int bad : outside(0, 3)) {
            due(BAD, x.given(bad));
            due(BAD, x.place(bad));
            due(BAD, x.seen(bad, ALL, 0));
            due(BAD, x.seen(bad, ALL, -1));
            due(BAD, x.seen(bad, ALL, GREATEST_INT));
            due(BAD, x.seen(bad, ALL, LEAST_INT));
        }
        for (int bad : outside(0, 288)) {
            due(BAD, x.seen(0, bad, 0));
            due(BAD, x.seen(3, bad, -1));
            due(BAD, x.seen(3, bad, 20));
            due(BAD, x.seen(0, bad, GREATEST_INT));
            due(BAD, x.seen(0, bad, LEAST_INT));
        }
        due(NONE, x.given(0));
        due(NONE, x.place(0));
        due(NONE, x.seen(0, ALL, 0));
    }

    // ---- What it is

    private static void lengthOfUse() {
        sentence = "What it is: An object is used for at most 512 calls after it has been made";
        Space x = new Space();
        yes(x.begin(0));
        due(1, x.put(0, 1, 100));
        due(1, x.ask(0, READ, ALL));
        for (int i = 4; i <= 509; i++) {
            due(0, x.pass(0));
        }
        yes(x.commit(0));
        due(100, x.next());
        due(1, x.ask(1, TAKE, ALL));
        sentence = "What it is: the 512th call is answered";
        if (x.calls != MOST_CALLS) {
            fail("the test made " + x.calls + " calls");
        }
    }
}
