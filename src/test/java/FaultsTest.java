import java.util.Random;

/** Random and damaged texts: their faults and places are the model's. */
public final class FaultsTest {
    public static void main(String[] args) {
        int[] seen = new int[5];
        for (int seed = 0; seed < 60000; seed++) {
            Random random = new Random(seed);
            Texts texts = new Texts(random);
            RaftHold x = new RaftHold();
            Model m = new Model();
            for (int k = 0; k < 3; k++) {
                String text = random.nextInt(4) == 0 ? texts.heap() : texts.raft(9);
                if (random.nextInt(10) > 0) {
                    text = texts.damaged(text);
                }
                Runs.feedBoth(x, m, text);
                int n = text.length();
                String told = "raft of \"" + text + "\"";
                Check.due(told, x.raft(n), m.raft(n));
                Check.due(told + " fault", x.fault(0), m.fault(0));
                Check.due(told + " place", x.fault(1), m.fault(1));
                for (int what = 0; what <= 10; what++) {
                    Check.due(told + " count", x.count(what), m.count(what));
                }
                seen[m.fault(0)]++;
            }
        }
        for (int kind = 0; kind < seen.length; kind++) {
            Check.holds("texts with fault " + kind, seen[kind] > 100);
            System.out.println("fault " + kind + ": " + seen[kind] + " texts");
        }
        Check.end();
    }
}
