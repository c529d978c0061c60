/** Random runs of calls answer as the model does. */
public final class RandomRunsTest {
    public static void main(String[] args) {
        int runs = args.length > 0 ? Integer.parseInt(args[0]) : 1500;
        int first = args.length > 1 ? Integer.parseInt(args[1]) : 0;
        for (int seed = first; seed < first + runs; seed++) {
            new Runs(seed, seed % 40 == 0 ? 8 : 5).go();
        }
        Check.end();
    }
}
