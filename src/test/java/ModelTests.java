import java.util.ArrayList;
import java.util.List;
import java.util.Random;
import java.util.TreeSet;

// Long runs of calls, compared call by call with a model that follows the
// words of the document over Java's collections. The seeds are fixed.
public final class ModelTests {
    private static final int RUNS = 4000;
    private static final int CALLS = 512;

    private static final class Entry {
        int first;
        int second;
        Integer end;
        Integer privateTo;
        Integer takenBy;
        final TreeSet<Integer> markedBy = new TreeSet<>();

        int tuple() {
            return 16 * first + second;
        }
    }

    private static final class Wait {
        final int client;
        final boolean take;
        final int template;

        Wait(int client, boolean take, int template) {
            this.client = client;
            this.take = take;
            this.template = template;
        }
    }

    private static final class Model {
        final List<Entry> entries = new ArrayList<>();
        final List<Wait> waits = new ArrayList<>();
        final TreeSet<Integer> transactions = new TreeSet<>();
        final Integer[] given = new Integer[4];
        int time = 0;

        static boolean client(int c) {
            return 0 <= c && c <= 3;
        }

        Wait waitOf(int c) {
            return waits.stream().filter(w -> w.client == c).findFirst().orElse(null);
        }

        static boolean fits(Entry e, int template) {
            int first = template / 17;
            int second = template - 17 * first;
            return (first == 16 || first == e.first) && (second == 16 || second == e.second);
        }

        static boolean isSeen(Entry e, int c) {
            return e.takenBy == null && (e.privateTo == null || e.privateTo.intValue() == c);
        }

        static boolean isFree(Entry e, int c) {
            return isSeen(e, c) && e.markedBy.stream().allMatch(other -> other == c);
        }

        boolean answer(int c, boolean take, int template) {
            for (Entry e : entries) {
                if (fits(e, template) && (take ? isFree(e, c) : isSeen(e, c))) {
                    given[c] = e.tuple();
                    if (!take) {
                        if (transactions.contains(c)) {
                            e.markedBy.add(c);
                        }
                    } else if (!transactions.contains(c) || e.privateTo != null) {
                        entries.remove(e);
                    } else {
                        e.takenBy = c;
                    }
                    return true;
                }
            }
            return false;
        }

        // Follows after refused calls too, as the words of the document have it.
        void service() {
            for (Wait w : new ArrayList<>(waits)) {
                if (answer(w.client, w.take, w.template)) {
                    waits.remove(w);
                }
            }
        }

        int put(int c, int tuple, int life) {
            int answer = putOnly(c, tuple, life);
            service();
            return answer;
        }

        private int putOnly(int c, int tuple, int life) {
            if (!client(c) || tuple < 0 || tuple > 255 || life < 0 || life > 100) {
                return -1;
            }
            if (waitOf(c) != null) {
                return -3;
            }
            if (entries.size() == 20) {
                return -2;
            }
            Entry e = new Entry();
            e.first = tuple / 16;
            e.second = tuple - 16 * e.first;
            e.end = life == 0 ? null : Integer.valueOf(time + life);
            e.privateTo = transactions.contains(c) ? Integer.valueOf(c) : null;
            entries.add(e);
            return entries.size();
        }

        int ask(int c, int how, int template) {
            if (!client(c) || how < 0 || how > 3 || template < 0 || template > 288) {
                return -1;
            }
            if (waitOf(c) != null) {
                return -3;
            }
            boolean take = how == 1 || how == 3;
            if (answer(c, take, template)) {
                return given[c];
            }
            if (how == 0 || how == 1) {
                waits.add(new Wait(c, take, template));
            }
            return -4;
        }

        int given(int c) {
            return !client(c) ? -1 : given[c] == null ? -4 : given[c];
        }

        boolean begin(int c) {
            return client(c) && waitOf(c) == null && transactions.add(c);
        }

        boolean end(int c, boolean commit) {
            boolean done = client(c) && waitOf(c) == null && transactions.remove(c);
            if (done) {
                Integer who = c;
                entries.removeIf(e -> who.equals(commit ? e.takenBy : e.privateTo));
                for (Entry e : entries) {
                    e.privateTo = who.equals(e.privateTo) ? null : e.privateTo;
                    e.takenBy = who.equals(e.takenBy) ? null : e.takenBy;
                    e.markedBy.remove(who);
                }
            }
            service();
            return done;
        }

        boolean cancel(int c) {
            return waits.removeIf(w -> w.client == c);
        }

        int pass(int n) {
            if (n < 0 || n > 50) {
                return -1;
            }
            time += n;
            int before = entries.size();
            entries.removeIf(e -> e.end != null && e.end <= time);
            int gone = before - entries.size();
            service();
            return gone;
        }

        List<Integer> sights(int c, int template) {
            List<Integer> found = new ArrayList<>();
            for (Entry e : entries) {
                if (isSeen(e, c) && fits(e, template)) {
                    found.add(e.tuple());
                }
            }
            return found;
        }

        int count(int c, int template) {
            return !client(c) || template < 0 || template > 288 ? -1 : sights(c, template).size();
        }

        int seen(int c, int template, int k) {
            if (!client(c) || template < 0 || template > 288) {
                return -1;
            }
            List<Integer> found = sights(c, template);
            return k < 0 || k >= found.size() ? -4 : found.get(k);
        }

        int state(int c) {
            if (!client(c)) {
                return -1;
            }
            Wait w = waitOf(c);
            return (w == null ? 0 : w.take ? 2 : 1) + (transactions.contains(c) ? 4 : 0);
        }

        int place(int c) {
            return !client(c) ? -1 : waitOf(c) == null ? -4 : waits.indexOf(waitOf(c));
        }

        int next() {
            return entries.stream().filter(e -> e.end != null).mapToInt(e -> e.end - time).min().orElse(-4);
        }
    }

    private static final int[] WEIRD = {Integer.MIN_VALUE, -17, -2, -1, 4, 51, 101, 256, 289, 290, Integer.MAX_VALUE};

    private static int wrong = 0;
    private static final TreeSet<String> met = new TreeSet<>();

    private static int number(Random dice, int below) {
        return dice.nextInt(60) == 0 ? WEIRD[dice.nextInt(WEIRD.length)] : dice.nextInt(below);
    }

    // Few field values let tuples and templates meet; some runs use all of them.
    private static int tuple(Random dice, int values) {
        return dice.nextInt(60) == 0 ? number(dice, 256) : 16 * dice.nextInt(values) + dice.nextInt(values);
    }

    private static int template(Random dice, int values) {
        if (dice.nextInt(60) == 0) {
            return number(dice, 289);
        }
        int first = dice.nextInt(3) == 0 ? 16 : dice.nextInt(values);
        int second = dice.nextInt(3) == 0 ? 16 : dice.nextInt(values);
        return 17 * first + second;
    }

    private static int number(boolean answer) {
        return answer ? 1 : 0;
    }

    private static void compare(int run, int call, String text, int got, int want) {
        met.add(text.substring(0, text.indexOf('(')) + (want < 0 ? " " + want : ""));
        if (got != want) {
            wrong++;
            if (wrong <= 20) {
                System.out.println("run " + run + ", call " + call + ": " + text + " answered " + got + ", due is " + want);
            }
        }
    }

    private static void step(int run, int call, Random dice, TupleSpace x, Model m) {
        int values = run % 4 == 0 ? 16 : 1 + run % 4;
        int c = number(dice, 4);
        int t = template(dice, values);
        int kind = dice.nextInt(100);
        if (kind < 28) {
            int tuple = tuple(dice, values);
            int life = dice.nextInt(3) == 0 ? number(dice, 101) : 0;
            compare(run, call, "put(" + c + ", " + tuple + ", " + life + ")", x.put(c, tuple, life), m.put(c, tuple, life));
        } else if (kind < 50) {
            int how = number(dice, 4);
            compare(run, call, "ask(" + c + ", " + how + ", " + t + ")", x.ask(c, how, t), m.ask(c, how, t));
        } else if (kind < 56) {
            compare(run, call, "begin(" + c + ")", number(x.begin(c)), number(m.begin(c)));
        } else if (kind < 60) {
            compare(run, call, "commit(" + c + ")", number(x.commit(c)), number(m.end(c, true)));
        } else if (kind < 64) {
            compare(run, call, "abort(" + c + ")", number(x.abort(c)), number(m.end(c, false)));
        } else if (kind < 69) {
            compare(run, call, "cancel(" + c + ")", number(x.cancel(c)), number(m.cancel(c)));
        } else if (kind < 72) {
            int n = dice.nextInt(3) == 0 ? number(dice, 51) : dice.nextInt(5);
            compare(run, call, "pass(" + n + ")", x.pass(n), m.pass(n));
        } else if (kind < 74) {
            int k = number(dice, 2);
            compare(run, call, "level(" + k + ")", number(x.level(k)), number(k == 0 || k == 1));
        } else {
            look(run, call, dice, x, m);
        }
    }

    private static void look(int run, int call, Random dice, TupleSpace x, Model m) {
        int values = run % 4 == 0 ? 16 : 1 + run % 4;
        int c = number(dice, 4);
        int t = template(dice, values);
        switch (dice.nextInt(7)) {
            case 0 -> compare(run, call, "given(" + c + ")", x.given(c), m.given(c));
            case 1 -> compare(run, call, "count(" + c + ", " + t + ")", x.count(c, t), m.count(c, t));
            case 2 -> {
                int k = number(dice, 5);
                compare(run, call, "seen(" + c + ", " + t + ", " + k + ")", x.seen(c, t, k), m.seen(c, t, k));
            }
            case 3 -> compare(run, call, "state(" + c + ")", x.state(c), m.state(c));
            case 4 -> compare(run, call, "place(" + c + ")", x.place(c), m.place(c));
            case 5 -> compare(run, call, "entries()", x.entries(), m.entries.size());
            default -> compare(run, call, "next()", x.next(), m.next());
        }
    }

    // The looking calls change nothing, so all of them may follow a run.
    private static void lookAtAll(int run, TupleSpace x, Model m) {
        compare(run, CALLS, "entries()", x.entries(), m.entries.size());
        compare(run, CALLS, "next()", x.next(), m.next());
        for (int c = 0; c < 4; c++) {
            compare(run, CALLS, "state(" + c + ")", x.state(c), m.state(c));
            compare(run, CALLS, "place(" + c + ")", x.place(c), m.place(c));
            compare(run, CALLS, "given(" + c + ")", x.given(c), m.given(c));
            for (int k = 0; k <= 20; k++) {
                compare(run, CALLS, "seen(" + c + ", 288, " + k + ")", x.seen(c, 288, k), m.seen(c, 288, k));
            }
        }
    }

    public static void main(String[] args) {
        for (int run = 0; run < RUNS; run++) {
            Random dice = new Random(run);
            TupleSpace x = new TupleSpace();
            Model m = new Model();
            int calls = run % 2 == 0 ? CALLS - 94 : dice.nextInt(60);
            for (int call = 1; call <= calls; call++) {
                step(run, call, dice, x, m);
            }
            lookAtAll(run, x, m);
        }
        String[] musts = {"put -1", "put -2", "put -3", "ask -1", "ask -3", "ask -4", "given -1", "given -4",
            "pass -1", "count -1", "seen -1", "seen -4", "state -1", "place -1", "place -4", "next -4"};
        for (String must : musts) {
            if (!met.contains(must)) {
                wrong++;
                System.out.println("no run met the answer: " + must);
            }
        }
        System.out.println(wrong == 0 ? RUNS + " runs agree with the model" : wrong + " answers differ from the model");
        if (wrong != 0) {
            System.exit(1);
        }
    }
}
