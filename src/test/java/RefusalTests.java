import java.util.ArrayList;
import java.util.List;
import java.util.function.Consumer;

// A refused call, and a call that only looks, changes nothing that later calls
// show. Twins are made by the same calls; one of them gets the refused call as
// well; then the same long run of calls is made on both and must answer alike.
public final class RefusalTests {
    private static final int BAD = -1;
    private static final int FULL = -2;
    private static final int BUSY = -3;
    private static final int NONE = -4;

    private static final int READ = 0;
    private static final int TAKE = 1;
    private static final int READ_NOW = 2;
    private static final int TAKE_NOW = 3;
    private static final int ALL = 288;
    private static final int MOST_CALLS = 512;

    private static final int YES = 1;
    private static final int NO = 0;

    private static int checks = 0;
    private static int wrong = 0;

    // Writes down every call with its answer; a boolean counts 1 or 0.
    private static final class Space {
        private final TupleSpace inner = new TupleSpace();
        private final List<String> script = new ArrayList<>();

        private int answer(String call, int value) {
            script.add(call + " = " + value);
            return value;
        }

        int put(int c, int tuple, int life) {
            return answer("put(" + c + ", " + tuple + ", " + life + ")", inner.put(c, tuple, life));
        }

        int ask(int c, int how, int template) {
            return answer("ask(" + c + ", " + how + ", " + template + ")", inner.ask(c, how, template));
        }

        int given(int c) {
            return answer("given(" + c + ")", inner.given(c));
        }

        int begin(int c) {
            return answer("begin(" + c + ")", inner.begin(c) ? YES : NO);
        }

        int commit(int c) {
            return answer("commit(" + c + ")", inner.commit(c) ? YES : NO);
        }

        int abort(int c) {
            return answer("abort(" + c + ")", inner.abort(c) ? YES : NO);
        }

        int cancel(int c) {
            return answer("cancel(" + c + ")", inner.cancel(c) ? YES : NO);
        }

        int pass(int n) {
            return answer("pass(" + n + ")", inner.pass(n));
        }

        int count(int c, int template) {
            return answer("count(" + c + ", " + template + ")", inner.count(c, template));
        }

        int seen(int c, int template, int k) {
            return answer("seen(" + c + ", " + template + ", " + k + ")", inner.seen(c, template, k));
        }

        int state(int c) {
            return answer("state(" + c + ")", inner.state(c));
        }

        int place(int c) {
            return answer("place(" + c + ")", inner.place(c));
        }

        int entries() {
            return answer("entries()", inner.entries());
        }

        int next() {
            return answer("next()", inner.next());
        }

        int level(int k) {
            return answer("level(" + k + ")", inner.level(k) ? YES : NO);
        }
    }

    private interface Call {
        int on(Space x);
    }

    private record Refused(int due, Call call) {
    }

    private record Scene(String name, Consumer<Space> calls, List<Refused> refused) {
    }

    public static void main(String[] args) {
        List<Scene> scenes = List.of(
            new Scene("a new object", x -> { }, refusedWhenNew()),
            new Scene("a full space with transactions", RefusalTests::buildFull, refusedWhenFull()),
            new Scene("clients that wait", RefusalTests::buildWaiting, refusedWhenWaiting()),
            new Scene("all clients wait", RefusalTests::buildAllWaiting, refusedWhenAllWait()));
        for (Scene scene : scenes) {
            List<Refused> calls = new ArrayList<>(scene.refused());
            addWrongArguments(calls);
            addLooks(calls);
            for (Refused refused : calls) {
                compareTwins(scene, refused);
            }
        }
        System.out.println((checks - wrong) + " passed, " + wrong + " failed");
        if (wrong != 0) {
            System.exit(1);
        }
    }

    private static void compareTwins(Scene scene, Refused refused) {
        for (Consumer<Space> later : laterCalls()) {
            Space with = new Space();
            Space without = new Space();
            scene.calls().accept(with);
            scene.calls().accept(without);
            int answer = refused.call().on(with);
            String call = with.script.get(with.script.size() - 1);
            boolean asDue = refused.due() == ANY_ANSWER || answer == refused.due();
            check(asDue, scene.name() + ": " + call + ", due is " + refused.due());
            with.script.remove(with.script.size() - 1);
            later.accept(with);
            later.accept(without);
            check(with.script.size() < MOST_CALLS, scene.name() + ": the test makes too many calls");
            boolean alike = with.script.equals(without.script);
            check(alike, scene.name() + ": after " + call + ": " + difference(with, without));
        }
    }

    private static void check(boolean holds, String what) {
        checks++;
        if (!holds) {
            wrong++;
            System.out.println(what);
        }
    }

    private static String difference(Space with, Space without) {
        int both = Math.min(with.script.size(), without.script.size());
        for (int i = 0; i < both; i++) {
            if (!with.script.get(i).equals(without.script.get(i))) {
                return with.script.get(i) + " instead of " + without.script.get(i);
            }
        }
        return "the scripts differ in length";
    }

    // ---- The states in which calls are refused

    // 20 entries, among them private, taken and marked ones and some that end.
    private static void buildFull(Space x) {
        x.pass(7);
        for (int i = 0; i < 14; i++) {
            x.put(i % 4, 16 * (i % 5) + i % 3, i % 4 == 0 ? 0 : 3 * i);
        }
        x.begin(0);
        x.begin(1);
        for (int i = 0; i < 3; i++) {
            x.put(0, 100 + i, 20 * i);
            x.put(1, 110 + i, 20 * i);
        }
        x.ask(0, TAKE, 17);
        x.ask(0, READ, ALL);
        x.ask(1, READ, ALL);
        x.ask(1, TAKE, 17 * 2 + 16);
        x.ask(1, READ, 17 * 3 + 16);
        x.ask(2, READ, ALL);
        x.ask(3, TAKE, 17 * 15 + 15);
    }

    private static List<Refused> refusedWhenFull() {
        List<Refused> calls = new ArrayList<>();
        for (int c = 0; c < 3; c++) {
            int client = c;
            calls.add(new Refused(FULL, x -> x.put(client, 255, 0)));
            calls.add(new Refused(FULL, x -> x.put(client, 0, 1)));
            calls.add(new Refused(NONE, x -> x.ask(client, READ_NOW, 17 * 15)));
            calls.add(new Refused(NONE, x -> x.ask(client, TAKE_NOW, 17 * 15 + 16)));
            calls.add(new Refused(NO, x -> x.cancel(client)));
        }
        calls.add(new Refused(NO, x -> x.begin(0)));
        calls.add(new Refused(NO, x -> x.begin(1)));
        calls.add(new Refused(NO, x -> x.commit(2)));
        calls.add(new Refused(NO, x -> x.abort(2)));
        addRefusedToAWaitingClient(calls, 3);
        return calls;
    }

    // A reader and a taker wait in transactions that hold private, taken and
    // marked entries; a third client waits without one.
    private static void buildWaiting(Space x) {
        x.pass(50);
        x.put(3, 1, 0);
        x.put(3, 2, 9);
        x.put(3, 3, 0);
        x.begin(2);
        x.begin(0);
        x.put(2, 4, 30);
        x.put(0, 5, 0);
        x.ask(2, TAKE, 1);
        x.ask(0, READ, 2);
        x.ask(2, READ, 3);
        x.ask(2, TAKE, 6);
        x.ask(0, READ, 7);
        x.ask(1, TAKE, 2);
    }

    private static List<Refused> refusedWhenWaiting() {
        List<Refused> calls = new ArrayList<>();
        for (int c = 0; c < 3; c++) {
            addRefusedToAWaitingClient(calls, c);
        }
        calls.add(new Refused(NONE, x -> x.ask(3, READ_NOW, 4)));
        calls.add(new Refused(NONE, x -> x.ask(3, TAKE_NOW, 2)));
        calls.add(new Refused(NO, x -> x.commit(3)));
        calls.add(new Refused(NO, x -> x.abort(3)));
        calls.add(new Refused(NO, x -> x.cancel(3)));
        return calls;
    }

    private static void buildAllWaiting(Space x) {
        x.begin(1);
        x.put(1, 8, 5);
        x.put(0, 9, 6);
        x.ask(3, TAKE, 6);
        x.ask(1, READ, 7);
        x.ask(0, READ, 6);
        x.ask(2, TAKE, 8);
    }

    private static List<Refused> refusedWhenAllWait() {
        List<Refused> calls = new ArrayList<>();
        for (int c = 0; c < 4; c++) {
            addRefusedToAWaitingClient(calls, c);
        }
        return calls;
    }

    private static List<Refused> refusedWhenNew() {
        List<Refused> calls = new ArrayList<>();
        for (int c = 0; c < 4; c++) {
            int client = c;
            calls.add(new Refused(NO, x -> x.commit(client)));
            calls.add(new Refused(NO, x -> x.abort(client)));
            calls.add(new Refused(NO, x -> x.cancel(client)));
            calls.add(new Refused(NONE, x -> x.ask(client, READ_NOW, ALL)));
            calls.add(new Refused(NONE, x -> x.ask(client, TAKE_NOW, ALL)));
        }
        return calls;
    }

    private static void addRefusedToAWaitingClient(List<Refused> calls, int c) {
        calls.add(new Refused(BUSY, x -> x.put(c, 1, 0)));
        calls.add(new Refused(BUSY, x -> x.put(c, 6, 100)));
        for (int h = 0; h < 4; h++) {
            int how = h;
            calls.add(new Refused(BUSY, x -> x.ask(c, how, 3)));
            calls.add(new Refused(BUSY, x -> x.ask(c, how, ALL)));
            calls.add(new Refused(BAD, x -> x.ask(c, how, 289)));
        }
        calls.add(new Refused(BAD, x -> x.put(c, 256, 0)));
        calls.add(new Refused(BAD, x -> x.ask(c, 4, 3)));
        calls.add(new Refused(NO, x -> x.begin(c)));
        calls.add(new Refused(NO, x -> x.commit(c)));
        calls.add(new Refused(NO, x -> x.abort(c)));
    }

    // ---- Calls that are refused in every state

    private static int[] outside(int low, int high) {
        return new int[] {Integer.MIN_VALUE, low - 1, high + 1, Integer.MAX_VALUE};
    }

    private static void addWrongArguments(List<Refused> calls) {
        for (int bad : outside(0, 3)) {
            addWrongClient(calls, bad);
            calls.add(new Refused(BAD, x -> x.ask(0, bad, ALL)));
            calls.add(new Refused(BAD, x -> x.ask(3, bad, 0)));
        }
        for (int bad : outside(0, 255)) {
            calls.add(new Refused(BAD, x -> x.put(0, bad, 0)));
            calls.add(new Refused(BAD, x -> x.put(3, bad, 100)));
        }
        for (int bad : outside(0, 100)) {
            calls.add(new Refused(BAD, x -> x.put(0, 0, bad)));
            calls.add(new Refused(BAD, x -> x.put(3, 255, bad)));
        }
        for (int bad : outside(0, 288)) {
            addWrongTemplate(calls, bad);
        }
        for (int bad : outside(0, 50)) {
            calls.add(new Refused(BAD, x -> x.pass(bad)));
        }
        for (int bad : outside(0, 1)) {
            calls.add(new Refused(NO, x -> x.level(bad)));
        }
    }

    private static void addWrongClient(List<Refused> calls, int bad) {
        calls.add(new Refused(BAD, x -> x.put(bad, 6, 0)));
        calls.add(new Refused(NO, x -> x.begin(bad)));
        calls.add(new Refused(NO, x -> x.commit(bad)));
        calls.add(new Refused(NO, x -> x.abort(bad)));
        calls.add(new Refused(NO, x -> x.cancel(bad)));
        calls.add(new Refused(BAD, x -> x.given(bad)));
        calls.add(new Refused(BAD, x -> x.state(bad)));
        calls.add(new Refused(BAD, x -> x.place(bad)));
        calls.add(new Refused(BAD, x -> x.count(bad, ALL)));
        calls.add(new Refused(BAD, x -> x.seen(bad, ALL, 0)));
        for (int h = 0; h < 4; h++) {
            int how = h;
            calls.add(new Refused(BAD, x -> x.ask(bad, how, ALL)));
        }
    }

    private static void addWrongTemplate(List<Refused> calls, int bad) {
        for (int c = 0; c < 4; c++) {
            int client = c;
            calls.add(new Refused(BAD, x -> x.count(client, bad)));
            calls.add(new Refused(BAD, x -> x.seen(client, bad, 0)));
            for (int h = 0; h < 4; h++) {
                int how = h;
                calls.add(new Refused(BAD, x -> x.ask(client, how, bad)));
            }
        }
    }

    // ---- Calls that only look

    private static final int ANY_ANSWER = Integer.MIN_VALUE;

    private static void addLooks(List<Refused> calls) {
        for (int c = 0; c < 4; c++) {
            int client = c;
            calls.add(new Refused(ANY_ANSWER, x -> x.given(client)));
            calls.add(new Refused(ANY_ANSWER, x -> x.state(client)));
            calls.add(new Refused(ANY_ANSWER, x -> x.place(client)));
            calls.add(new Refused(ANY_ANSWER, x -> x.count(client, ALL)));
            calls.add(new Refused(ANY_ANSWER, x -> x.seen(client, ALL, 0)));
            calls.add(new Refused(ANY_ANSWER, x -> x.seen(client, ALL, 2)));
            calls.add(new Refused(NONE, x -> x.seen(client, ALL, -1)));
            calls.add(new Refused(NONE, x -> x.seen(client, ALL, 20)));
        }
        calls.add(new Refused(ANY_ANSWER, Space::entries));
        calls.add(new Refused(ANY_ANSWER, Space::next));
        calls.add(new Refused(YES, x -> x.level(0)));
        calls.add(new Refused(YES, x -> x.level(1)));
        calls.add(new Refused(0, x -> x.pass(0)));
    }

    // ---- Later calls, each run bringing another part of the state to light

    private static List<Consumer<Space>> laterCalls() {
        return List.of(
            RefusalTests::cancelAndCommit,
            RefusalTests::cancelAndAbort,
            RefusalTests::takeInTurn,
            RefusalTests::letTimePass,
            RefusalTests::serveTheWaiting,
            RefusalTests::fillUp);
    }

    private static void lookAtAll(Space x) {
        int there = x.entries();
        x.next();
        for (int c = 0; c < 4; c++) {
            x.state(c);
            x.place(c);
            x.given(c);
            x.count(c, ALL);
            for (int k = 0; k < there; k++) {
                x.seen(c, ALL, k);
            }
        }
    }

    private static void cancelAll(Space x) {
        for (int c = 0; c < 4; c++) {
            x.cancel(c);
        }
    }

    private static void cancelAndCommit(Space x) {
        lookAtAll(x);
        cancelAll(x);
        for (int c = 0; c < 4; c++) {
            x.commit(c);
            x.entries();
        }
        lookAtAll(x);
        for (int i = 0; i <= 20; i++) {
            x.ask(i % 4, TAKE_NOW, ALL);
            x.next();
        }
    }

    private static void cancelAndAbort(Space x) {
        cancelAll(x);
        for (int c = 3; c >= 0; c--) {
            x.abort(c);
            x.entries();
        }
        lookAtAll(x);
        for (int i = 0; i <= 20; i++) {
            x.ask(3, TAKE_NOW, ALL);
            x.next();
        }
    }

    // Takes by each client show what is marked, and by whom.
    private static void takeInTurn(Space x) {
        cancelAll(x);
        for (int i = 0; i < 6; i++) {
            for (int c = 3; c >= 0; c--) {
                x.ask(c, TAKE_NOW, ALL);
            }
        }
        lookAtAll(x);
        for (int c = 0; c < 4; c++) {
            x.commit(c);
            x.ask(3, TAKE_NOW, ALL);
        }
        lookAtAll(x);
    }

    private static void letTimePass(Space x) {
        for (int i = 0; i < 70; i++) {
            x.next();
            x.pass(1);
        }
        x.pass(50);
        x.put(3, 77, 20);
        lookAtAll(x);
    }

    // Puts by a client that does not wait show who waits for what, in which order.
    private static void serveTheWaiting(Space x) {
        x.cancel(3);
        for (int i = 0; i < 4; i++) {
            x.ask(3, TAKE_NOW, ALL);
        }
        for (int tuple = 0; tuple < 10; tuple++) {
            x.put(3, tuple, 0);
            for (int c = 0; c < 4; c++) {
                x.state(c);
                x.place(c);
                x.given(c);
            }
        }
        x.put(3, 255, 0);
        lookAtAll(x);
    }

    private static void fillUp(Space x) {
        for (int i = 0; i < 21; i++) {
            for (int c = 0; c < 4; c++) {
                x.put(c, 200 + i, 1 + i);
            }
        }
        lookAtAll(x);
        x.pass(9);
        lookAtAll(x);
    }
}
