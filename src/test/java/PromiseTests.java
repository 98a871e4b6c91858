// One method for each promise of the document: ordinary calls, the edges that
// the document names, and wrong inputs.
public final class PromiseTests {
    private static final int BAD = -1;
    private static final int FULL = -2;
    private static final int BUSY = -3;
    private static final int NONE = -4;

    private static final int READ = 0;
    private static final int TAKE = 1;
    private static final int READ_NOW = 2;
    private static final int TAKE_NOW = 3;
    private static final int ALL = 288;

    private static final int[] NO_CLIENTS = {Integer.MIN_VALUE, -1, 4, Integer.MAX_VALUE};
    private static final int[] NO_TUPLES = {Integer.MIN_VALUE, -1, 256, Integer.MAX_VALUE};
    private static final int[] NO_LIVES = {Integer.MIN_VALUE, -1, 101, Integer.MAX_VALUE};
    private static final int[] NO_HOWS = {Integer.MIN_VALUE, -1, 4, Integer.MAX_VALUE};
    private static final int[] NO_TEMPLATES = {Integer.MIN_VALUE, -1, 289, Integer.MAX_VALUE};
    private static final int[] NO_PASSES = {Integer.MIN_VALUE, -1, 51, Integer.MAX_VALUE};
    private static final int[] NO_LEVELS = {Integer.MIN_VALUE, -1, 2, Integer.MAX_VALUE};

    private static String promise = "";
    private static int checks = 0;
    private static int wrong = 0;

    private static void due(String call, int got, int want) {
        checks++;
        if (got != want) {
            wrong++;
            System.out.println(promise + ": " + call + " answered " + got + ", due is " + want);
        }
    }

    private static void due(String call, boolean got, boolean want) {
        checks++;
        if (got != want) {
            wrong++;
            System.out.println(promise + ": " + call + " answered " + got + ", due is " + want);
        }
    }

    private static int template(int first, int second) {
        return 17 * first + second;
    }

    private static TupleSpace full() {
        TupleSpace x = new TupleSpace();
        for (int i = 0; i < 20; i++) {
            due("put number " + (i + 1), x.put(i % 4, i, 0), i + 1);
        }
        return x;
    }

    public static void main(String[] args) {
        newObject();
        putAnswers();
        putRefuses();
        putIsPrivateInATransaction();
        putServesTheWaiting();
        askFitsTemplates();
        askReads();
        askTakes();
        askTakesInTransactions();
        askRespectsMarks();
        askWaits();
        askRefuses();
        givenTells();
        beginAnswers();
        commitEnds();
        commitServes();
        abortEnds();
        abortServes();
        cancelAnswers();
        passLetsEntriesGo();
        passRefuses();
        countAnswers();
        seenAnswers();
        stateAnswers();
        placeAnswers();
        serviceKeepsTheOrder();
        entriesAnswers();
        nextAnswers();
        levelAnswers();
        badComesBeforeNone();
        constants();
        System.out.println((checks - wrong) + " passed, " + wrong + " failed");
        if (wrong != 0) {
            System.exit(1);
        }
    }

    private static void newObject() {
        promise = "1 a new object";
        TupleSpace x = new TupleSpace();
        due("entries()", x.entries(), 0);
        due("next()", x.next(), NONE);
        for (int c = 0; c < 4; c++) {
            due("state(" + c + ")", x.state(c), 0);
            due("place(" + c + ")", x.place(c), NONE);
            due("given(" + c + ")", x.given(c), NONE);
            due("count(" + c + ")", x.count(c, ALL), 0);
            due("seen(" + c + ")", x.seen(c, ALL, 0), NONE);
            due("cancel(" + c + ")", x.cancel(c), false);
            due("commit(" + c + ")", x.commit(c), false);
            due("abort(" + c + ")", x.abort(c), false);
        }
        TupleSpace y = new TupleSpace();
        x.put(0, 1, 1);
        x.begin(0);
        due("entries() of another object", y.entries(), 0);
        due("state(0) of another object", y.state(0), 0);
    }

    private static void putAnswers() {
        promise = "2 put";
        TupleSpace x = new TupleSpace();
        due("put(0, 0, 0)", x.put(0, 0, 0), 1);
        due("put(3, 255, 100)", x.put(3, 255, 100), 2);
        due("put(1, 255, 1)", x.put(1, 255, 1), 3);
        due("next()", x.next(), 1);
        due("pass(1)", x.pass(1), 1);
        due("next()", x.next(), 99);
        due("put(0, 7, 50)", x.put(0, 7, 50), 3);
        due("next() counts from the time of the put", x.next(), 50);
        due("put(0, 0, 0) the same tuple again", x.put(0, 0, 0), 4);
        due("count of the same tuple", x.count(2, 0), 2);
        for (int n = 0; n < 4; n++) {
            x.pass(50);
        }
        due("entries() without an end stay", x.entries(), 2);
    }

    private static void putRefuses() {
        promise = "2 put";
        TupleSpace x = new TupleSpace();
        for (int bad : NO_CLIENTS) {
            due("put(" + bad + ", 0, 0)", x.put(bad, 0, 0), BAD);
        }
        for (int bad : NO_TUPLES) {
            due("put(0, " + bad + ", 0)", x.put(0, bad, 0), BAD);
        }
        for (int bad : NO_LIVES) {
            due("put(0, 0, " + bad + ")", x.put(0, 0, bad), BAD);
        }
        due("entries() after wrong puts", x.entries(), 0);

        x = full();
        due("put of entry 21", x.put(0, 1, 0), FULL);
        due("put of entry 21 with a bad client", x.put(4, 1, 0), BAD);
        due("put of entry 21 with a bad tuple", x.put(0, 256, 0), BAD);
        due("put of entry 21 with a bad life", x.put(0, 1, 101), BAD);
        due("ask that waits", x.ask(1, READ, template(15, 15)), NONE);
        due("put by a waiting client into a full space", x.put(1, 255, 0), BUSY);
        due("bad put by a waiting client", x.put(1, 256, 0), BAD);
        due("entries() after refused puts", x.entries(), 20);
        due("begin(0)", x.begin(0), true);
        due("take in a transaction", x.ask(0, TAKE, ALL), 0);
        due("put while the taken entry is there", x.put(0, 1, 0), FULL);
        due("commit(0)", x.commit(0), true);
        due("put after it went", x.put(0, 255, 0), 20);
        due("the waiting reader got it", x.given(1), 255);
        due("seen as the newest", x.seen(0, ALL, 19), 255);
    }

    private static void putIsPrivateInATransaction() {
        promise = "2 put";
        TupleSpace x = new TupleSpace();
        x.begin(1);
        due("put(1, 20, 0) in a transaction", x.put(1, 20, 0), 1);
        due("count by its own client", x.count(1, ALL), 1);
        due("count by another", x.count(0, ALL), 0);
        due("read by another", x.ask(0, READ_NOW, ALL), NONE);
        due("put by another without a transaction", x.put(0, 21, 0), 2);
        due("count by a third", x.count(2, ALL), 1);
    }

    private static void putServesTheWaiting() {
        promise = "2 put";
        TupleSpace x = new TupleSpace();
        due("ask(0, TAKE)", x.ask(0, TAKE, template(1, 16)), NONE);
        due("put of another tuple", x.put(1, 32, 0), 1);
        due("state(0) still waits", x.state(0), 2);
        due("put counts before the service", x.put(1, 17, 0), 2);
        due("entries() after the service", x.entries(), 1);
        due("given(0)", x.given(0), 17);
        due("state(0)", x.state(0), 0);
        due("place(0)", x.place(0), NONE);
    }

    private static void askFitsTemplates() {
        promise = "3 ask";
        TupleSpace x = new TupleSpace();
        x.put(0, 16 * 3 + 5, 0);
        for (int t = 0; t <= 288; t++) {
            boolean fit = (t / 17 == 3 || t / 17 == 16) && (t % 17 == 5 || t % 17 == 16);
            due("ask(1, 2, " + t + ")", x.ask(1, READ_NOW, t), fit ? 53 : NONE);
        }
        x = new TupleSpace();
        x.put(0, 0, 0);
        x.put(0, 255, 0);
        due("template (0, 0)", x.ask(1, READ_NOW, 0), 0);
        due("template (15, 15)", x.ask(1, READ_NOW, template(15, 15)), 255);
        due("template (0, any)", x.ask(1, READ_NOW, 16), 0);
        due("template (any, 15)", x.ask(1, READ_NOW, template(16, 15)), 255);
        due("template (0, 15)", x.ask(1, READ_NOW, 15), NONE);
        due("template (15, 0)", x.ask(1, READ_NOW, template(15, 0)), NONE);
    }

    private static void askReads() {
        promise = "3 ask";
        TupleSpace x = new TupleSpace();
        x.put(0, 200, 0);
        x.put(1, 100, 0);
        due("read gives the oldest", x.ask(2, READ, ALL), 200);
        due("read again", x.ask(2, READ_NOW, ALL), 200);
        due("entries() after reads", x.entries(), 2);
        due("a read without a transaction marks nothing", x.ask(3, TAKE_NOW, ALL), 200);
        due("entries()", x.entries(), 1);
    }

    private static void askTakes() {
        promise = "3 ask";
        TupleSpace x = new TupleSpace();
        x.put(0, 200, 0);
        x.put(0, 100, 0);
        x.put(0, 150, 0);
        due("take gives the oldest", x.ask(1, TAKE, ALL), 200);
        due("entries()", x.entries(), 2);
        due("take from the end", x.ask(1, TAKE_NOW, template(9, 6)), 150);
        x.put(0, 50, 0);
        due("take: an entry put later is younger", x.ask(1, TAKE_NOW, ALL), 100);
        due("take of the last", x.ask(1, TAKE_NOW, ALL), 50);
        due("take of none", x.ask(1, TAKE_NOW, ALL), NONE);
        due("state(1) does not wait", x.state(1), 0);
    }

    private static void askTakesInTransactions() {
        promise = "3 ask";
        TupleSpace x = new TupleSpace();
        x.put(0, 1, 0);
        x.begin(1);
        x.put(1, 2, 0);
        due("take in a transaction", x.ask(1, TAKE, ALL), 1);
        due("the taken entry is there", x.entries(), 2);
        due("its taker does not see it", x.ask(1, READ_NOW, 1), NONE);
        due("another does not see it", x.ask(0, READ_NOW, ALL), NONE);
        due("another can't take it", x.ask(0, TAKE_NOW, ALL), NONE);
        due("take of its own private entry", x.ask(1, TAKE, ALL), 2);
        due("the private entry went", x.entries(), 1);
    }

    private static void askRespectsMarks() {
        promise = "3 ask";
        TupleSpace x = new TupleSpace();
        x.put(0, 1, 0);
        x.put(0, 2, 0);
        x.begin(1);
        x.begin(2);
        due("read in a transaction", x.ask(1, READ, ALL), 1);
        due("another reads the marked entry", x.ask(3, READ_NOW, ALL), 1);
        due("a second transaction marks it too", x.ask(2, READ, ALL), 1);
        due("another takes the next one", x.ask(3, TAKE_NOW, ALL), 2);
        due("marked by two: the first can't take it", x.ask(1, TAKE_NOW, ALL), NONE);
        due("marked by two: the second can't take it", x.ask(2, TAKE_NOW, ALL), NONE);
        due("commit(2)", x.commit(2), true);
        due("marked by 1: client 2 can't take it", x.ask(2, TAKE_NOW, ALL), NONE);
        due("its own mark hinders nobody", x.ask(1, TAKE_NOW, ALL), 1);
        due("abort(1)", x.abort(1), true);
        due("neither taken nor marked after it", x.ask(0, TAKE_NOW, ALL), 1);
        due("entries()", x.entries(), 0);
    }

    private static void askWaits() {
        promise = "3 ask";
        TupleSpace x = new TupleSpace();
        due("read that waits", x.ask(0, READ, ALL), NONE);
        due("take that waits", x.ask(1, TAKE, ALL), NONE);
        due("read that does not", x.ask(2, READ_NOW, ALL), NONE);
        due("take that does not", x.ask(3, TAKE_NOW, ALL), NONE);
        due("state(0)", x.state(0), 1);
        due("state(1)", x.state(1), 2);
        due("state(2)", x.state(2), 0);
        due("state(3)", x.state(3), 0);
        due("an ask of a waiting client", x.ask(0, READ_NOW, ALL), BUSY);
        due("an ask of a waiting client", x.ask(1, TAKE, ALL), BUSY);
        due("state(0) after BUSY", x.state(0), 1);
        x.put(2, 9, 0);
        due("an ask after the service", x.ask(0, READ_NOW, ALL), NONE);
    }

    private static void askRefuses() {
        promise = "3 ask";
        TupleSpace x = new TupleSpace();
        for (int bad : NO_CLIENTS) {
            due("ask(" + bad + ", 0, 0)", x.ask(bad, READ, 0), BAD);
        }
        for (int bad : NO_HOWS) {
            due("ask(0, " + bad + ", 0)", x.ask(0, bad, 0), BAD);
        }
        for (int bad : NO_TEMPLATES) {
            due("ask(0, 0, " + bad + ")", x.ask(0, READ, bad), BAD);
        }
        due("state(0) after wrong asks", x.state(0), 0);
        x.ask(0, READ, ALL);
        due("BAD before BUSY: how", x.ask(0, 4, 0), BAD);
        due("BAD before BUSY: template", x.ask(0, READ, 289), BAD);
        x.cancel(0);
        x.put(1, 3, 0);
        due("wrong asks give nothing", x.ask(0, 5, ALL), BAD);
        due("given(0)", x.given(0), NONE);
        due("entries()", x.entries(), 1);
    }

    private static void givenTells() {
        promise = "4 given";
        TupleSpace x = new TupleSpace();
        x.put(0, 0, 0);
        x.put(0, 40, 0);
        due("given before", x.given(3), NONE);
        x.ask(3, READ_NOW, ALL);
        due("given after a read", x.given(3), 0);
        x.ask(3, TAKE_NOW, template(2, 8));
        due("given after a take", x.given(3), 40);
        x.ask(3, TAKE, template(2, 8));
        due("given after NONE", x.given(3), 40);
        x.ask(3, READ_NOW, ALL);
        due("given after BUSY", x.given(3), 40);
        x.cancel(3);
        due("given after cancel", x.given(3), 40);
        x.ask(3, READ, template(4, 1));
        x.put(0, 65, 0);
        due("given by the service", x.given(3), 65);
        due("given to its putter", x.given(0), NONE);
        x.begin(2);
        x.ask(2, TAKE, ALL);
        x.abort(2);
        due("given stays after abort", x.given(2), 0);
        for (int bad : NO_CLIENTS) {
            due("given(" + bad + ")", x.given(bad), BAD);
        }
    }

    private static void beginAnswers() {
        promise = "5 begin";
        TupleSpace x = new TupleSpace();
        for (int c = 0; c < 4; c++) {
            due("begin(" + c + ")", x.begin(c), true);
            due("state(" + c + ")", x.state(c), 4);
            due("begin(" + c + ") again", x.begin(c), false);
            due("state(" + c + ")", x.state(c), 4);
        }
        for (int bad : NO_CLIENTS) {
            due("begin(" + bad + ")", x.begin(bad), false);
        }
        x = new TupleSpace();
        x.ask(0, READ, ALL);
        due("begin of a waiting client", x.begin(0), false);
        due("state(0)", x.state(0), 1);
        x.cancel(0);
        due("begin after cancel", x.begin(0), true);
        due("commit(0)", x.commit(0), true);
        due("begin after commit", x.begin(0), true);
        due("abort(0)", x.abort(0), true);
        due("begin after abort", x.begin(0), true);
    }

    private static void commitEnds() {
        promise = "6 commit";
        TupleSpace x = new TupleSpace();
        x.put(0, 1, 0);
        x.put(0, 2, 0);
        x.put(0, 3, 0);
        x.begin(1);
        x.put(1, 4, 0);
        x.put(0, 5, 0);
        x.ask(1, READ, template(0, 2));
        due("take 1", x.ask(1, TAKE, template(0, 1)), 1);
        due("take 3", x.ask(1, TAKE, template(0, 3)), 3);
        due("entries() before", x.entries(), 5);
        due("commit(1)", x.commit(1), true);
        due("taken ones went", x.entries(), 3);
        due("state(1)", x.state(1), 0);
        due("marks went", x.ask(0, TAKE_NOW, ALL), 2);
        due("private no more, its age kept", x.ask(0, TAKE_NOW, ALL), 4);
        due("the younger one", x.ask(0, TAKE_NOW, ALL), 5);
        due("commit(1) again", x.commit(1), false);
        for (int bad : NO_CLIENTS) {
            due("commit(" + bad + ")", x.commit(bad), false);
        }
        x.begin(2);
        x.ask(2, TAKE, ALL);
        due("commit of a waiting client", x.commit(2), false);
        due("state(2)", x.state(2), 6);
        commitLeavesOthers();
    }

    private static void commitLeavesOthers() {
        TupleSpace x = new TupleSpace();
        x.put(0, 1, 0);
        x.put(0, 2, 0);
        x.begin(1);
        x.begin(2);
        x.ask(2, TAKE, ALL);
        x.ask(2, READ, ALL);
        x.put(2, 3, 0);
        due("commit(1)", x.commit(1), true);
        due("what another took is there", x.entries(), 3);
        due("and not seen", x.count(1, ALL), 1);
        due("another's mark stays", x.ask(1, TAKE_NOW, ALL), NONE);
        due("another's transaction stays", x.state(2), 4);
        due("begin(1)", x.begin(1), true);
        due("abort(1)", x.abort(1), true);
        due("abort leaves others' entries", x.entries(), 3);
        due("abort leaves others' taken ones", x.count(1, ALL), 1);
        due("abort leaves others' marks", x.ask(1, TAKE_NOW, ALL), NONE);
        due("and their private ones", x.count(2, ALL), 2);
    }

    private static void commitServes() {
        promise = "6 commit";
        TupleSpace x = new TupleSpace();
        x.begin(1);
        x.put(1, 77, 0);
        due("ask(0, READ)", x.ask(0, READ, ALL), NONE);
        due("ask(2, TAKE)", x.ask(2, TAKE, ALL), NONE);
        due("commit(1)", x.commit(1), true);
        due("given(0)", x.given(0), 77);
        due("given(2)", x.given(2), 77);
        due("entries()", x.entries(), 0);
        x.put(0, 5, 0);
        x.begin(1);
        x.ask(1, READ, ALL);
        due("take of a marked one waits", x.ask(3, TAKE, ALL), NONE);
        due("commit(1)", x.commit(1), true);
        due("given(3) as the marks went", x.given(3), 5);
    }

    private static void abortEnds() {
        promise = "7 abort";
        TupleSpace x = new TupleSpace();
        x.put(0, 1, 0);
        x.put(0, 2, 0);
        x.begin(1);
        x.put(1, 3, 0);
        x.put(1, 4, 0);
        x.put(0, 5, 0);
        x.ask(1, READ, template(0, 2));
        due("take", x.ask(1, TAKE, ALL), 1);
        due("abort(1)", x.abort(1), true);
        due("private ones went", x.entries(), 3);
        due("state(1)", x.state(1), 0);
        due("taken no more, its age kept", x.ask(0, TAKE_NOW, ALL), 1);
        due("marks went", x.ask(0, TAKE_NOW, ALL), 2);
        due("the rest", x.ask(0, TAKE_NOW, ALL), 5);
        due("abort(1) again", x.abort(1), false);
        for (int bad : NO_CLIENTS) {
            due("abort(" + bad + ")", x.abort(bad), false);
        }
        x.begin(2);
        x.ask(2, READ, ALL);
        due("abort of a waiting client", x.abort(2), false);
        due("state(2)", x.state(2), 5);
    }

    private static void abortServes() {
        promise = "7 abort";
        TupleSpace x = new TupleSpace();
        x.put(0, 1, 0);
        x.begin(1);
        x.begin(2);
        x.ask(1, TAKE, ALL);
        due("read of a taken one waits", x.ask(2, READ, ALL), NONE);
        due("take of a taken one waits", x.ask(3, TAKE, ALL), NONE);
        due("abort(1)", x.abort(1), true);
        due("given(2)", x.given(2), 1);
        due("the mark by the service stops the taker", x.state(3), 2);
        due("place(3)", x.place(3), 0);
        due("state(2)", x.state(2), 4);
        due("abort(2)", x.abort(2), true);
        due("given(3)", x.given(3), 1);
        due("entries()", x.entries(), 0);

        x = new TupleSpace();
        x.put(0, 8, 0);
        x.begin(1);
        x.begin(2);
        x.ask(1, READ, ALL);
        due("take in a transaction waits", x.ask(2, TAKE, ALL), NONE);
        due("abort(1)", x.abort(1), true);
        due("given(2)", x.given(2), 8);
        due("taken by its transaction", x.entries(), 1);
        due("and not seen", x.count(0, ALL), 0);
        due("abort(2)", x.abort(2), true);
        due("seen again", x.count(0, ALL), 1);
    }

    private static void cancelAnswers() {
        promise = "8 cancel";
        TupleSpace x = new TupleSpace();
        for (int bad : NO_CLIENTS) {
            due("cancel(" + bad + ")", x.cancel(bad), false);
        }
        due("cancel of one that does not wait", x.cancel(0), false);
        x.begin(0);
        x.ask(0, TAKE, ALL);
        x.ask(1, TAKE, ALL);
        due("cancel(0)", x.cancel(0), true);
        due("state(0)", x.state(0), 4);
        due("place(0)", x.place(0), NONE);
        due("place(1)", x.place(1), 0);
        due("cancel(0) again", x.cancel(0), false);
        x.put(2, 6, 0);
        due("given(0)", x.given(0), NONE);
        due("given(1)", x.given(1), 6);
    }

    private static void passLetsEntriesGo() {
        promise = "9 pass";
        TupleSpace x = new TupleSpace();
        x.put(0, 1, 50);
        x.put(0, 2, 51);
        x.put(0, 3, 0);
        x.put(0, 4, 50);
        due("pass(0)", x.pass(0), 0);
        due("pass(49)", x.pass(49), 0);
        due("pass(0)", x.pass(0), 0);
        due("pass(1)", x.pass(1), 2);
        due("entries()", x.entries(), 2);
        due("pass(50)", x.pass(50), 1);
        due("entries()", x.entries(), 1);
        due("what stays", x.seen(0, ALL, 0), 3);

        x = new TupleSpace();
        x.put(0, 1, 3);
        x.put(0, 2, 3);
        x.put(0, 5, 0);
        x.begin(1);
        x.begin(2);
        x.put(1, 3, 3);
        x.ask(1, TAKE, template(0, 1));
        x.ask(2, READ, template(0, 2));
        due("private, taken and marked ones go too", x.pass(3), 3);
        due("entries()", x.entries(), 1);
        due("abort(1)", x.abort(1), true);
        due("entries() after abort", x.entries(), 1);
        due("the entry that stays has no mark", x.ask(3, TAKE_NOW, ALL), 5);
    }

    private static void passRefuses() {
        promise = "9 pass";
        TupleSpace x = new TupleSpace();
        x.put(0, 1, 10);
        for (int bad : NO_PASSES) {
            due("pass(" + bad + ")", x.pass(bad), BAD);
            due("next() after it", x.next(), 10);
        }
        due("entries()", x.entries(), 1);
        due("pass(50)", x.pass(50), 1);
        x.ask(1, TAKE, ALL);
        due("pass while one waits", x.pass(50), 0);
        due("state(1)", x.state(1), 2);
    }

    private static void countAnswers() {
        promise = "10 count";
        TupleSpace x = new TupleSpace();
        x.put(0, 16 * 2 + 3, 0);
        x.put(0, 16 * 2 + 4, 0);
        x.put(0, 16 * 5 + 3, 0);
        x.begin(1);
        x.put(1, 16 * 2 + 3, 0);
        due("count(0, all)", x.count(0, ALL), 3);
        due("count(1, all)", x.count(1, ALL), 4);
        due("count(0, first 2)", x.count(0, template(2, 16)), 2);
        due("count(1, second 3)", x.count(1, template(16, 3)), 3);
        due("count(1, (2, 3))", x.count(1, template(2, 3)), 2);
        due("count(1, (3, 2))", x.count(1, template(3, 2)), 0);
        x.ask(1, TAKE, ALL);
        due("a taken one is seen by nobody", x.count(1, ALL), 3);
        due("nor by another", x.count(2, ALL), 2);
        x.ask(1, READ, ALL);
        due("a marked one is seen", x.count(2, ALL), 2);
        x.ask(3, TAKE, template(9, 9));
        due("count by a waiting client", x.count(3, ALL), 2);
        for (int bad : NO_CLIENTS) {
            due("count(" + bad + ", 0)", x.count(bad, 0), BAD);
        }
        for (int bad : NO_TEMPLATES) {
            due("count(0, " + bad + ")", x.count(0, bad), BAD);
        }
    }

    private static void seenAnswers() {
        promise = "11 seen";
        TupleSpace x = new TupleSpace();
        x.put(0, 30, 0);
        x.put(0, 20, 0);
        x.begin(1);
        x.put(1, 10, 0);
        x.put(0, 31, 0);
        due("seen(0, all, 0)", x.seen(0, ALL, 0), 30);
        due("seen(0, all, 1)", x.seen(0, ALL, 1), 20);
        due("seen(0, all, 2) leaves out a private one", x.seen(0, ALL, 2), 31);
        due("seen(0, all, 3)", x.seen(0, ALL, 3), NONE);
        due("seen(1, all, 2)", x.seen(1, ALL, 2), 10);
        due("seen(1, all, 3)", x.seen(1, ALL, 3), 31);
        due("seen(0, first 1, 2)", x.seen(0, template(1, 16), 2), 31);
        due("seen(0, second 14, 0)", x.seen(0, template(16, 14), 0), 30);
        due("seen(0, second 14, 1)", x.seen(0, template(16, 14), 1), NONE);
        due("seen with k -1", x.seen(0, ALL, -1), NONE);
        due("seen with the least k", x.seen(0, ALL, Integer.MIN_VALUE), NONE);
        due("seen with the greatest k", x.seen(0, ALL, Integer.MAX_VALUE), NONE);
        x.ask(1, TAKE, ALL);
        due("seen leaves out a taken one", x.seen(1, ALL, 0), 20);
        due("seen gives nothing", x.given(0), NONE);
        for (int bad : NO_CLIENTS) {
            due("seen(" + bad + ", all, 0)", x.seen(bad, ALL, 0), BAD);
        }
        for (int bad : NO_TEMPLATES) {
            due("seen(0, " + bad + ", 0)", x.seen(0, bad, 0), BAD);
        }
    }

    private static void stateAnswers() {
        promise = "12 state";
        TupleSpace x = new TupleSpace();
        x.begin(2);
        x.begin(3);
        due("state(0)", x.state(0), 0);
        due("state(2)", x.state(2), 4);
        x.ask(0, READ, ALL);
        x.ask(1, TAKE, ALL);
        x.ask(2, READ, ALL);
        x.ask(3, TAKE, ALL);
        due("state(0)", x.state(0), 1);
        due("state(1)", x.state(1), 2);
        due("state(2)", x.state(2), 5);
        due("state(3)", x.state(3), 6);
        for (int bad : NO_CLIENTS) {
            due("state(" + bad + ")", x.state(bad), BAD);
        }
    }

    private static void placeAnswers() {
        promise = "13 place";
        TupleSpace x = new TupleSpace();
        x.ask(3, TAKE, template(1, 1));
        x.ask(0, TAKE, template(2, 2));
        x.ask(2, READ, template(1, 1));
        x.ask(1, READ, template(3, 3));
        due("place(3)", x.place(3), 0);
        due("place(0)", x.place(0), 1);
        due("place(2)", x.place(2), 2);
        due("place(1)", x.place(1), 3);
        due("cancel(0)", x.cancel(0), true);
        due("place(0) after cancel", x.place(0), NONE);
        due("place(3)", x.place(3), 0);
        due("place(2)", x.place(2), 1);
        due("place(1)", x.place(1), 2);
        x.ask(0, READ, template(2, 2));
        due("place(0) at the end again", x.place(0), 3);
    }

    private static void serviceKeepsTheOrder() {
        promise = "13 place";
        TupleSpace x = new TupleSpace();
        x.ask(3, TAKE, template(1, 1));
        x.ask(0, TAKE, ALL);
        x.ask(2, READ, template(1, 1));
        due("ask without an entry", x.ask(1, TAKE, template(1, 16)), NONE);
        due("put for the first in order", x.put(1, 17, 0), BUSY);
        x.cancel(1);
        due("put for the first in order", x.put(1, 17, 0), 1);
        due("given(3)", x.given(3), 17);
        due("place(3)", x.place(3), NONE);
        due("place(0)", x.place(0), 0);
        due("place(2)", x.place(2), 1);
        due("put for the next", x.put(1, 17, 0), 1);
        due("given(0)", x.given(0), 17);
        due("given(2)", x.given(2), NONE);
        due("put for the last", x.put(1, 17, 0), 1);
        due("given(2)", x.given(2), 17);
        due("a read leaves it", x.entries(), 1);
    }

    private static void entriesAnswers() {
        promise = "14 entries";
        TupleSpace x = new TupleSpace();
        x.put(0, 1, 0);
        x.begin(0);
        x.put(0, 2, 5);
        due("private ones count", x.entries(), 2);
        x.ask(0, TAKE, template(0, 1));
        due("taken ones count", x.entries(), 2);
        x.pass(5);
        due("those that went do not", x.entries(), 1);
        x.commit(0);
        due("nor those taken and committed", x.entries(), 0);
        due("entries() of a full space", full().entries(), 20);
    }

    private static void nextAnswers() {
        promise = "15 next";
        TupleSpace x = new TupleSpace();
        x.put(0, 1, 0);
        due("next() without an end", x.next(), NONE);
        x.put(0, 2, 100);
        due("next()", x.next(), 100);
        x.put(0, 3, 60);
        due("next()", x.next(), 60);
        x.put(0, 4, 80);
        due("next()", x.next(), 60);
        x.pass(50);
        due("next() after pass", x.next(), 10);
        x.begin(1);
        x.ask(1, TAKE, template(0, 3));
        due("next() looks at taken ones", x.next(), 10);
        x.put(1, 5, 1);
        due("next() looks at private ones", x.next(), 1);
        x.commit(1);
        due("next() after commit", x.next(), 1);
        x.pass(1);
        due("next() after that went", x.next(), 29);
        x.ask(0, TAKE_NOW, template(0, 4));
        due("next()", x.next(), 49);
        x.ask(0, TAKE_NOW, template(0, 2));
        due("next()", x.next(), NONE);
    }

    private static void levelAnswers() {
        promise = "16 level";
        TupleSpace x = new TupleSpace();
        for (int bad : NO_LEVELS) {
            due("level(" + bad + ")", x.level(bad), false);
        }
        x.put(0, 18, 0);
        x.put(0, 33, 0);
        for (int k = 1; k >= 0; k--) {
            due("level(" + k + ")", x.level(k), true);
            due("level(" + k + ") again", x.level(k), true);
            due("count", x.count(1, template(1, 16)), 1);
            due("count of none", x.count(1, template(3, 16)), 0);
            due("seen", x.seen(1, template(2, 1), 0), 33);
            due("read", x.ask(1, READ_NOW, template(16, 2)), 18);
        }
        due("take at level 0", x.ask(1, TAKE_NOW, template(1, 16)), 18);
        due("level(1)", x.level(1), true);
        due("count of what went", x.count(1, template(1, 16)), 0);
        due("put", x.put(1, 19, 0), 2);
        due("count of what came", x.count(1, template(1, 16)), 1);
    }

    private static void badComesBeforeNone() {
        promise = "17 order and limits";
        TupleSpace x = new TupleSpace();
        for (int bad : NO_CLIENTS) {
            due("given(" + bad + ")", x.given(bad), BAD);
            due("place(" + bad + ")", x.place(bad), BAD);
            due("seen(" + bad + ", all, 0)", x.seen(bad, ALL, 0), BAD);
            due("seen(" + bad + ", all, -1)", x.seen(bad, ALL, -1), BAD);
        }
        for (int bad : NO_TEMPLATES) {
            due("seen(0, " + bad + ", 0)", x.seen(0, bad, 0), BAD);
            due("seen(0, " + bad + ", 99)", x.seen(0, bad, 99), BAD);
        }
    }

    private static void constants() {
        promise = "the public face";
        due("BAD", TupleSpace.BAD, BAD);
        due("FULL", TupleSpace.FULL, FULL);
        due("BUSY", TupleSpace.BUSY, BUSY);
        due("NONE", TupleSpace.NONE, NONE);
    }
}
