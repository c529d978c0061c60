import java.util.Random;

/** Random runs of calls on the class and the model side by side. */
final class Runs {
    private static final int CALLS = 47;

    private final Random random;
    private final Texts texts;
    private final RaftHold x = new RaftHold();
    private final Model m = new Model();
    private final int most;
    private int calls;
    private String trace = "";

    Runs(long seed, int most) {
        random = new Random(seed);
        texts = new Texts(random);
        this.most = most;
    }

    static int feedBoth(RaftHold x, Model m, String text) {
        int fed = 0;
        for (int i = 0; i < text.length(); i += 20) {
            int[] w = new int[5];
            for (int k = 0; k < 20; k++) {
                w[k / 4] = w[k / 4] << 8 | (i + k < text.length() ? text.charAt(i + k) & 255 : 32);
            }
            Check.due("feed", x.feed(w[0], w[1], w[2], w[3], w[4]), m.feed(w[0], w[1], w[2], w[3], w[4]));
            fed++;
        }
        return fed;
    }

    private int small() {
        int k = random.nextInt(30);
        return k == 0 ? -1 : k == 1 ? random.nextInt() : k == 2 ? 8 : random.nextInt(Math.max(1, m.count(0)));
    }

    private int what(int bound) {
        int k = random.nextInt(20);
        return k == 0 ? random.nextInt() : k == 1 ? -1 : k == 2 ? bound : random.nextInt(bound);
    }

    private int set() {
        int k = random.nextInt(25);
        return k == 0 ? random.nextInt() : k == 1 ? 1 << m.count(0) : random.nextInt(1 << m.count(0));
    }

    private int tray() {
        return random.nextInt(20) == 0 ? random.nextInt(7) - 2 : random.nextInt(3);
    }

    private long number() {
        switch (random.nextInt(10)) {
            case 0:
                return random.nextLong();
            case 1:
                return random.nextInt(600) - 50;
            case 2:
            case 3:
                return 0;
            case 4:
                return 10 + random.nextInt(10);
            case 5:
                return 20 + random.nextInt(10);
            case 6:
                return 30 + random.nextInt(10);
            case 7:
                return 100 + random.nextInt(Math.max(10, 10 * m.count(0)));
            default:
                return 2L * random.nextInt(1 << m.count(0)) + random.nextInt(2);
        }
    }

    private void same(String call, long got, long want) {
        calls++;
        trace = trace + call + "=" + want + "; ";
        Check.due(trace, got, want);
    }

    void go() {
        tell();
        while (calls < 400) {
            int before = calls;
            one(random.nextInt(CALLS + 3));
            if (calls == before) {
                calls++;
            }
        }
    }

    private void tell() {
        String text = texts.raft(most);
        if (random.nextInt(9) == 0) {
            text = texts.damaged(text);
        }
        int fed = feedBoth(x, m, text);
        calls += fed;
        int n = random.nextInt(40) == 0 ? random.nextInt(1000) - 20 : text.length();
        trace = trace + "[" + text + "] ";
        same("raft(" + n + ")", x.raft(n), m.raft(n));
    }

    private void one(int k) {
        int p = small();
        int q = small();
        int w = what(2);
        int set = set();
        int t = tray();
        switch (k) {
            case 0 -> feed();
            case 1 -> {
                if (random.nextInt(6) == 0) {
                    tell();
                }
            }
            case 2 -> same("fault " + w, x.fault(w), m.fault(w));
            case 3 -> {
                int what = what(13);
                same("holder " + p + " " + what, x.holder(p, what), m.holder(p, what));
            }
            case 4 -> same("lets " + p, x.lets(p), m.lets(p));
            case 5 -> same("floats " + set, x.floats(set), m.floats(set));
            case 6 -> same("pieces " + set, x.pieces(set), m.pieces(set));
            case 7 -> {
                int n = random.nextInt(3) > 0 ? 1 : random.nextInt(102) - 1;
                same("weeks " + n, x.weeks(n), m.weeks(n));
            }
            case 8 -> same("go " + p, x.go(p), m.go(p));
            case 9, 47, 48 -> same("take " + p, x.take(p), m.take(p));
            case 10 -> {
                int n = what(10);
                same("mend " + p + " " + n, x.mend(p, n), m.mend(p, n));
            }
            case 11 -> {
                int n = what(10);
                same("storm " + n, x.storm(n), m.storm(n));
            }
            case 12 -> {
                int n = random.nextInt(3) > 0 ? 1 : what(12);
                same("undo " + n, x.undo(n), m.undo(n));
            }
            case 13 -> {
                int what = what(4);
                same("judge " + t + " " + what, x.judge(t, what), m.judge(t, what));
            }
            case 14 -> same("perform " + t, x.perform(t), m.perform(t));
            case 15 -> {
                int seed = random.nextInt();
                int times = random.nextInt(43);
                same("year " + seed + " " + times, x.year(seed, times), m.year(seed, times));
            }
            case 16 -> same("settles " + set + " " + w, x.settles(set, w), m.settles(set, w));
            case 17 -> same("when " + p, x.when(p), m.when(p));
            case 18 -> same("sinks", x.sinks(), m.sinks());
            case 19 -> same("steady", x.steady(), m.steady());
            case 20 -> {
                int kind = what(2);
                same("starts " + kind + " " + w, x.starts(kind, w), m.starts(kind, w));
            }
            case 21 -> same("spark " + w, x.spark(w), m.spark(w));
            case 22, 49 -> same("cut " + p + " " + q + " " + w, x.cut(p, q, w), m.cut(p, q, w));
            case 23 -> same("least " + w, x.least(w), m.least(w));
            case 24 -> same("needed", x.needed(), m.needed());
            default -> oneMore(k, p, q, w, set, t);
        }
    }

    private void oneMore(int k, int p, int q, int w, int set, int t) {
        switch (k) {
            case 25 -> same("power " + p + " " + w, x.power(p, w), m.power(p, w));
            case 26 -> same("dummies", x.dummies(), m.dummies());
            case 27 -> same("swings " + p, x.swings(p), m.swings(p));
            case 28 -> same("winning " + w, x.winning(w), m.winning(w));
            case 29 -> {
                int i = what(3);
                int j = what(3);
                same("beats " + i + " " + j, x.beats(i, j), m.beats(i, j));
            }
            case 30 -> same("island " + w, x.island(w), m.island(w));
            case 31 -> {
                int what = random.nextInt(3) == 0 ? what(30) : random.nextBoolean() ? 0 : 10 + p;
                same("placing " + what, x.placing(what), m.placing(what));
            }
            case 32 -> same("quarrels", x.quarrels(), m.quarrels());
            case 33 -> same("bearings " + t + " " + p, x.bearings(t, p), m.bearings(t, p));
            case 34 -> same("storms " + t, x.storms(t), m.storms(t));
            case 35 -> same("attempt " + t + " " + p, x.attempt(t, p), m.attempt(t, p));
            case 36 -> same("sides " + set, x.sides(set), m.sides(set));
            case 37 -> same("best " + set, x.best(set), m.best(set));
            case 38 -> {
                int n = what(9);
                same("chance " + n + " " + w, x.chance(n, w), m.chance(n, w));
            }
            case 39 -> {
                int n = what(9);
                same("mean " + n + " " + w, x.mean(n, w), m.mean(n, w));
            }
            case 40 -> tray(t);
            case 41 -> {
                int i = random.nextInt(4);
                long v = number();
                same("write " + t + " " + i + " " + v, x.write(t, i, v), m.write(t, i, v));
            }
            case 42 -> same("lists " + t, x.lists(t), m.lists(t));
            case 43 -> {
                int i = random.nextInt(5) == 0 ? what(3) : random.nextInt(2);
                same("image " + i, x.image(i), m.image(i));
            }
            case 44 -> {
                int i = random.nextInt(5) == 0 ? what(3) : random.nextInt(2);
                same("restore " + i, x.restore(i), m.restore(i));
            }
            default -> {
                int what = what(11);
                same("count " + what, x.count(what), m.count(what));
            }
        }
    }

    private void feed() {
        if (random.nextInt(4) == 0) {
            int v = random.nextInt();
            same("feed", x.feed(v, v, 0, -1, v), m.feed(v, v, 0, -1, v));
        }
    }

    /** Half of the trays tell tests that fit the raft, so that something can be found out by them. */
    private void tray(int t) {
        int sort = what(4);
        boolean tests = random.nextBoolean();
        int n = random.nextInt(15) == 0 ? random.nextInt(44) - 1 : tests ? 1 + random.nextInt(3) : random.nextInt(6);
        same("numbers " + t + " " + sort + " " + n, x.numbers(t, sort, n), m.numbers(t, sort, n));
        for (int i = 0; i < n && i < 9; i++) {
            int set = random.nextInt(1 << m.count(0));
            long v = tests ? 2L * set + (random.nextInt(6) == 0 ? random.nextInt(2) : m.floats(set)) : number();
            same("write " + t + " " + i + " " + v, x.write(t, i, v), m.write(t, i, v));
        }
    }
}
