import java.util.Random;

/** Crowded rafts, of six to eight people: the questions, for all people and many drawn sets, answer as the model does. */
public final class CrowdTest {
    private static final int SEEDS = 7919;

    private final Random random;
    private final String text;
    private RaftHold x;
    private Model m;

    private CrowdTest(long seed) {
        random = new Random(SEEDS * seed);
        text = new Texts(random).crowd();
    }

    public static void main(String[] args) {
        int rafts = args.length > 0 ? Integer.parseInt(args[0]) : 60;
        int first = args.length > 1 ? Integer.parseInt(args[1]) : 0;
        for (int seed = first; seed < first + rafts; seed++) {
            new CrowdTest(seed).go();
        }
        Check.end();
    }

    private void go() {
        tell();
        people();
        tell();
        sets();
        tell();
        fewest();
        tell();
        votesAndPlaces();
        tell();
        tested();
        tell();
        turnsAndChances();
    }

    /** Both anew, and some deeds done, the same on both. */
    private void tell() {
        x = new RaftHold();
        m = new Model();
        Runs.feedBoth(x, m, text);
        same("raft", x.raft(text.length()), m.raft(text.length()));
        for (int i = random.nextInt(4); i > 0; i--) {
            int seed = random.nextInt();
            same("year " + seed, x.year(seed, i), m.year(seed, i));
        }
    }

    private void same(String call, long got, long want) {
        Check.due("[" + text + "] " + call, got, want);
    }

    private void people() {
        for (int p = 0; p < m.count(0); p++) {
            for (int what = 0; what <= 13; what++) {
                same("holder " + p + " " + what, x.holder(p, what), m.holder(p, what));
            }
            same("lets " + p, x.lets(p), m.lets(p));
            same("when " + p, x.when(p), m.when(p));
        }
        for (int what = 0; what <= 11; what++) {
            same("count " + what, x.count(what), m.count(what));
        }
        same("quarrels", x.quarrels(), m.quarrels());
        same("sinks", x.sinks(), m.sinks());
        same("steady", x.steady(), m.steady());
    }

    private void sets() {
        for (int set = random.nextInt(2); set < 1 << m.count(0); set += 2) {
            same("floats " + set, x.floats(set), m.floats(set));
            same("pieces " + set, x.pieces(set), m.pieces(set));
            same("settles " + set + " 0", x.settles(set, 0), m.settles(set, 0));
        }
        for (int i = 0; i < 60; i++) {
            int set = random.nextInt(1 << m.count(0));
            same("settles " + set + " 1", x.settles(set, 1), m.settles(set, 1));
        }
    }

    private void fewest() {
        for (int what = 0; what < 2; what++) {
            same("starts 0 " + what, x.starts(0, what), m.starts(0, what));
            same("starts 1 " + what, x.starts(1, what), m.starts(1, what));
            same("spark " + what, x.spark(what), m.spark(what));
            same("least " + what, x.least(what), m.least(what));
            for (int p = 0; p < m.count(0); p++) {
                for (int q = 0; q < m.count(0); q++) {
                    same("cut " + p + " " + q + " " + what, x.cut(p, q, what), m.cut(p, q, what));
                }
            }
        }
        same("needed", x.needed(), m.needed());
    }

    private void votesAndPlaces() {
        for (int p = 0; p < m.count(0); p++) {
            same("power " + p + " 0", x.power(p, 0), m.power(p, 0));
            same("power " + p + " 1", x.power(p, 1), m.power(p, 1));
            same("swings " + p, x.swings(p), m.swings(p));
            same("placing " + (10 + p), x.placing(10 + p), m.placing(10 + p));
        }
        same("placing 0", x.placing(0), m.placing(0));
        same("dummies", x.dummies(), m.dummies());
        for (int what = 0; what < 2; what++) {
            same("winning " + what, x.winning(what), m.winning(what));
            same("island " + what, x.island(what), m.island(what));
        }
        for (int i = 0; i < 3; i++) {
            for (int j = 0; j < 3; j++) {
                same("beats " + i + " " + j, x.beats(i, j), m.beats(i, j));
            }
        }
    }

    private void tested() {
        for (int round = 0; round < 3; round++) {
            int n = 1 + random.nextInt(round == 0 ? 8 : 2);
            same("numbers", x.numbers(0, 3, n), m.numbers(0, 3, n));
            for (int i = 0; i < n; i++) {
                int set = random.nextInt(1 << m.count(0));
                long v = 2L * set + (random.nextInt(9) == 0 ? random.nextInt(2) : m.floats(set));
                same("write " + v, x.write(0, i, v), m.write(0, i, v));
            }
            same("storms", x.storms(0), m.storms(0));
            for (int p = 0; p < m.count(0); p++) {
                same("bearings " + p, x.bearings(0, p), m.bearings(0, p));
                same("attempt " + p, x.attempt(0, p), m.attempt(0, p));
            }
        }
    }

    private void turnsAndChances() {
        for (int i = 0; i < 60; i++) {
            int set = random.nextInt(1 << m.count(0));
            same("sides " + set, x.sides(set), m.sides(set));
            same("best " + set, x.best(set), m.best(set));
        }
        for (int n = 0; n <= 8; n++) {
            for (int what = 0; what < 2; what++) {
                same("chance " + n + " " + what, x.chance(n, what), m.chance(n, what));
                same("mean " + n + " " + what, x.mean(n, what), m.mean(n, what));
            }
        }
    }
}
