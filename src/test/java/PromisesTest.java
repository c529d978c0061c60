/** Every promise by its number: ordinary inputs, the edges that the document names, wrong inputs. */
public final class PromisesTest {
    private static final String HOLDER = "holder bears 1 weight 1;";
    private static final int[] WRONG = {-1, Integer.MIN_VALUE, Integer.MAX_VALUE};

    public static void main(String[] args) {
        aNewObject();
        feed();
        raft();
        tokens();
        laws();
        fault();
        holder();
        lets();
        floats();
        pieces();
        weeks();
        goAndTake();
        mendAndStorm();
        undo();
        judge();
        perform();
        year();
        settling();
        starts();
        spark();
        cut();
        leastAndNeeded();
        power();
        votes();
        islands();
        places();
        tested();
        attempt();
        turns();
        chances();
        trays();
        lists();
        images();
        count();
        Check.end();
    }

    private static void due(String call, long got, long want) {
        Check.due(call, got, want);
    }

    private static String holders(int... bears) {
        StringBuilder s = new StringBuilder("raft quota 1;");
        for (int b : bears) {
            s.append("holder bears ").append(b).append(" weight 1;");
        }
        return s.toString();
    }

    private static void aNewObject() {
        Check.promise(1, "a new object");
        RaftHold x = new RaftHold();
        int[] want = {0, 1, 0, 0, 0, 1, 0, 0, 0, 0, 0};
        for (int what = 0; what < want.length; what++) {
            due("count " + what, x.count(what), want[what]);
        }
        due("fault 0", x.fault(0), 0);
        due("fault 1", x.fault(1), -1);
        due("NONE", RaftHold.NONE, -1);
        for (int tray = 0; tray < 4; tray++) {
            due("perform " + tray, x.perform(tray), -6);
        }
    }

    private static void feed() {
        Check.promise(2, "feed");
        RaftHold x = new RaftHold();
        for (int i = 1; i <= 45; i++) {
            due("feed " + i, x.feed(0, 0, 0, 0, 0), 20 * i);
        }
        due("feed 46", x.feed(0, 0, 0, 0, 0), -5);
        due("count 9", x.count(9), 900);
        RaftHold y = new RaftHold();
        y.feed(0x72616674, 0x2071756f, 0x74612037, 0x3b202020, 0x20202020);
        due("the highest byte first", y.raft(20), 1);
        due("quota", y.count(1), 7);
        due("bytes above 127", new RaftHold().feed(-1, -1, -1, -1, -1), 20);
    }

    private static void raft() {
        Check.promise(3, "raft");
        RaftHold x = new RaftHold();
        due("raft 1 of nothing", x.raft(1), -3);
        due("raft of nothing", x.raft(0), -32);
        due("its place", x.fault(1), 0);
        Check.feed(x, "raft quota 99;holder bears 9 weight 9;storm 9;");
        due("below 0", x.raft(-1), -3);
        due("above", x.raft(61), -3);
        due("the tape stays", x.count(9), 60);
        due("lines", x.raft(46), 3);
        due("the tape is empty", x.count(9), 0);
        due("quota", x.count(1), 99);
        due("storm", x.count(6), 9);
        due("lines", x.count(10), 3);
        x.weeks(3);
        x.go(0);
        due("a fault", Check.tell(x, "raft quota 1;storm"), -32);
        due("the tape is empty", x.count(9), 0);
        due("weeks stay", x.count(7), 3);
        due("what can be undone stays", x.count(8), 2);
        due("lines stay", x.count(10), 3);
        due("quota stays", x.count(1), 99);
        due("who holds stays", x.count(2), 0);
        due("a new one", Check.tell(x, "raft quota 2;" + HOLDER), 2);
        due("weeks are 0", x.count(7), 0);
        due("nothing can be undone", x.count(8), 0);
        due("all holds anew", x.count(2), 1);
        due("storm anew", x.count(6), 0);
        due("n cuts the text", cutText(), 1);
        RaftHold y = Check.raft("raft quota 1;holder bears 1 weight 1 loose votes 5 votes 2 likes 1 2 3 likes 4 5 6;"
            + "storm 4;storm 5;lets : 1 = 1;lets : 1 = 2;floats : 1 = 2;floats : 1 = 1;");
        due("later votes strike", y.holder(0, 3), 2);
        due("later likes strike", y.holder(0, 11), 5);
        due("later storm strikes", y.count(6), 5);
        due("later floats strikes", y.count(5), 1);
        y.take(0);
        due("later lets strikes", y.lets(0), 0);
        due("lines", y.count(10), 8);
    }

    private static int cutText() {
        RaftHold x = new RaftHold();
        Check.feed(x, "raft quota 1;storm 1;");
        return x.raft(13);
    }

    private static void faulty(String text, int kind, int place) {
        RaftHold x = new RaftHold();
        due("raft \"" + text + "\"", Check.tell(x, text), -30 - kind);
        due("fault \"" + text + "\"", x.fault(0), kind);
        due("place \"" + text + "\"", x.fault(1), place);
    }

    private static void fine(String text, int lines) {
        due("raft \"" + text + "\"", Check.tell(new RaftHold(), text), lines);
    }

    private static void tokens() {
        Check.promise(3, "raft: tokens and faults");
        fine("\n raft\nquota\n1\n;\n", 1);
        fine("raft quota1;storm7;", 2);
        fine("raft quota 007;", 1);
        faulty("raftquota 1;", 2, 0);
        faulty("raft quota 1;\t", 1, 13);
        faulty("raft quota 1;\r", 1, 13);
        faulty("raft quota 1;S", 1, 13);
        faulty("raft quota 1;`", 1, 13);
        faulty("raft quota 1;{", 1, 13);
        faulty("raft quota 1;a", 2, 13);
        faulty("raft quota 1;z", 2, 13);
        faulty("raft quota 1;/", 1, 13);
        faulty("raft quota 1;9", 2, 13);
        faulty("raft quota 1;:", 2, 13);
        faulty("raft quota 1;storm " + (char) 233 + ";", 1, 19);
        faulty("raft quota 1;storm 1" + (char) 0 + ";", 1, 20);
        faulty("raft quota 0001;", 1, 11);
        faulty("raft quota 1;holder 1234;", 1, 20);
        faulty("raft quota 1;by 1234 #;", 1, 16);
        faulty("raft storm #", 2, 5);
        faulty("raft quota 1 ", 2, 13);
        faulty("raft quota 1;storm 1;;", 2, 21);
        faulty(";", 2, 0);
        faulty("raft quota 1;holder weight 1 bears 1;", 2, 20);
        faulty("raft quota 1;holder bears 1 weight 1 votes;", 2, 42);
        faulty("raft quota 1;holder bears 1 weight 1 likes 1 10 3;", 3, 45);
        faulty("raft quota 1;holder bears 1 weight 1 likes 1 2 3 4;", 2, 49);
        String eight = "raft quota 1;" + HOLDER.repeat(8);
        fine(eight, 9);
        faulty(eight + "holder", 4, eight.length());
        faulty(eight + "by 7 8;", 3, eight.length() + 5);
        fine(eight + "by 7 0;quarrel 0 7;by 0 7;", 12);
        faulty("raft quota 1;" + HOLDER + "by 0 1;" + HOLDER, 3, 42);
        faulty("raft quota 1;" + HOLDER + "quarrel 1 0;", 3, 45);
        faulty("raft quota 1;storm;", 2, 18);
        faulty("raft quota 1;loose;", 2, 13);
        String long900 = "raft quota 1;" + " ".repeat(887);
        fine(long900, 1);
        faulty("raft quota 1;" + " ".repeat(886) + "x", 2, 899);
    }

    private static void laws() {
        Check.promise(3, "raft: laws");
        String six = "raft quota 1;lets:";
        fine(six + "not not not not not not 1=1;", 2);
        faulty(six + "not not not not not not not 1=1;", 4, 42);
        fine(six + "[[[[[[1=1]]]]]];", 2);
        faulty(six + "[[[[[[[1=1]]]]]]];", 4, 24);
        fine(six + "((((((1))))))=((((((1))))));", 2);
        faulty(six + "not [not [not [(1)=1]]];", 4, 33);
        faulty(six + "[[[[[[[", 4, 24);
        faulty(six + "((((((not", 2, 24);
        faulty(six + "(((((([", 2, 24);
        fine(six + "not not not not not not 1=1 and not [ not (1)=1 ];", 2);
        faulty(six + "(1=1);", 2, 20);
        faulty(six + "1=1=1;", 2, 21);
        faulty(six + "[1]=1;", 2, 20);
        faulty(six + "[1=1]+1;", 2, 23);
        faulty(six + "[1=1]=1;", 2, 23);
        faulty(six + "1 not 1;", 2, 20);
        faulty(six + "1=not 1;", 2, 20);
        faulty(six + "1=1);", 2, 21);
        faulty(six + "1=1];", 2, 21);
        faulty(six + "1=1 and;", 2, 25);
        faulty(six + "-1=1;", 2, 18);
        faulty(six + "1=1", 2, 21);
        faulty(six + "[1=1;", 2, 22);
        faulty(six + "(1)=(1;", 2, 24);
        faulty(six + ";", 2, 18);
        faulty(six + "all votes", 2, 22);
        faulty("raft quota 1;floats:who=1;", 2, 20);
        faulty("raft quota 1;floats:gone=1;", 2, 20);
        faulty("raft quota 1;floats 1=1;", 2, 20);
        law("1 = 2 or 1 = 1 and 2 = 2", 1);
        law("1 = 1 or 1 = 1 and 1 = 2", 1);
        law("[1 = 1 or 1 = 1] and 1 = 2", 0);
        law("not 1 = 2 and 1 = 1", 1);
        law("not 1 = 1 or 1 = 1", 1);
        law("not [1 = 1 or 1 = 1]", 0);
        law("2 + 3 * 4 = 14", 1);
        law("(2 + 3) * 4 = 20", 1);
        law("9 - 3 - 2 = 4", 1);
        law("0 - 5 < 0", 1);
        law("2 > 1", 1);
        law("2 < 1", 0);
        law("999 * 999 * 999 = 999 * 999 * 2", 1);
        law("999 * 999 * 2 - 999 * 2 = 998 * 999 + 998 + 2", 1);
        law("0 - 999 * 999 * 9 - 9 = 0 - 999 * 999 * 9", 1);
        law("(0 - 999 * 999 * 9) * (999 * 999 * 9) = 0 - 999 * 999 * 9", 1);
        law("(0 - 999 * 999 * 9) * (0 - 999 * 999 * 9) = 999 * 999 * 9", 1);
        law("999 * 999 * 9 = 1000 - 0", NOT_READ);
    }

    private static final int NOT_READ = -31;

    private static void law(String truth, int want) {
        RaftHold x = new RaftHold();
        int lines = Check.tell(x, "raft quota 1;" + HOLDER + "floats : " + truth + ";");
        due("floats : " + truth, lines < 0 ? lines : x.count(5), want);
    }

    private static void fault() {
        Check.promise(4, "fault");
        RaftHold x = new RaftHold();
        Check.tell(x, "raft quota 0;");
        due("fault", x.fault(0), 3);
        due("place", x.fault(1), 11);
        x.raft(-1);
        due("one that wasn't read changes nothing", x.fault(0), 3);
        due("others", x.fault(2), -1);
        due("others", x.fault(-1), -1);
        Check.tell(x, "raft quota 1;");
        due("none", x.fault(0), 0);
        due("no place", x.fault(1), -1);
    }

    private static void holder() {
        Check.promise(5, "holder");
        RaftHold x = Check.raft("raft quota 1;holder bears 7 weight 3 loose votes 9 likes 4 5 6;" + HOLDER + HOLDER
            + "by 0 2;by 2 0;quarrel 1 0;");
        int[][] want = {{0, 7, 3, 9, 4, 2}, {1, 1, 1, 1, 0, 1}, {1, 1, 1, 1, 1, 0}};
        for (int p = 0; p < 3; p++) {
            for (int what = 0; what < 6; what++) {
                due("holder " + p + " " + what, x.holder(p, what), want[p][what]);
            }
        }
        for (int i = 0; i < 3; i++) {
            due("likes " + i, x.holder(0, 10 + i), 4 + i);
            due("likes " + i, x.holder(1, 10 + i), 0);
        }
        for (int what : new int[] {-1, 6, 9, 13, 100}) {
            due("what " + what, x.holder(0, what), -2);
        }
        for (int p : WRONG) {
            due("p " + p, x.holder(p, 0), -2);
        }
        due("p 3", x.holder(3, 0), -2);
        x.mend(0, 2);
        x.take(0);
        due("bears now", x.holder(0, 1), 2);
        due("holds now", x.holder(0, 0), 1);
    }

    private static void lets() {
        Check.promise(6, "lets");
        String text = holders(1, 2, 3, 4) + "by 0 1;by 1 2;storm 3;lets : ";
        lets(text, "who = 2", 4);
        lets(text, "all = 4", 15);
        lets(text, "near = 1", 5);
        lets(text, "near = 0", 8);
        lets(text, "bears = storm", 4);
        lets(text, "weight = bears", 1);
        RaftHold x = Check.raft(text + "gone > 0 and near > 0;");
        due("nobody is gone", x.lets(0), 0);
        x.go(0);
        due("it doesn't hold", x.lets(0), 0);
        due("one beside it is gone", x.lets(1), 1);
        due("not beside it", x.lets(2), 0);
        due("it stays till a week", x.count(2), 14);
        due("no such", x.lets(4), -2);
        due("no such", x.lets(-1), -2);
        due("without a law", Check.raft(holders(1)).lets(0), 0);
    }

    private static void lets(String text, String law, int who) {
        RaftHold x = Check.raft(text + law + ";");
        for (int p = 0; p < 4; p++) {
            due("lets : " + law + " of " + p, x.lets(p), who >> p & 1);
        }
    }

    private static void floats() {
        Check.promise(7, "floats");
        RaftHold x = Check.raft(holders(3, 1, 0));
        due("as much", x.floats(1), 1);
        due("less", x.floats(2), 0);
        due("nobody", x.floats(0), 0);
        due("all", x.floats(7), 1);
        due("others", x.floats(8), -3);
        for (int set : WRONG) {
            due("set " + set, x.floats(set), -3);
        }
        x.mend(1, 3);
        due("as it bears now", x.floats(2), 1);
        String law = holders(3, 1, 0) + "by 0 1;storm 2;floats : ";
        for (int set = 0; set < 8; set++) {
            int all = Integer.bitCount(set);
            int bears = (set & 1) * 3 + (set >> 1 & 1);
            int parts = (set & 3) == 0 ? set >> 2 : 1 + (set >> 2);
            due("all", Check.raft(law + "all = 2;").floats(set), all == 2 ? 1 : 0);
            due("bears", Check.raft(law + "bears = 3;").floats(set), bears == 3 ? 1 : 0);
            due("weight", Check.raft(law + "weight = 3;").floats(set), 1);
            due("storm", Check.raft(law + "storm > bears;").floats(set), bears < 2 ? 1 : 0);
            due("parts", Check.raft(law + "parts = 1;").floats(set), parts == 1 ? 1 : 0);
        }
        RaftHold nobody = Check.raft("raft quota 1;floats : 1 = 2;");
        due("without people", nobody.floats(0), 1);
        due("without people", nobody.floats(1), -3);
        due("eight", Check.raft("raft quota 1;" + HOLDER.repeat(8)).floats(255), 1);
        due("eight", Check.raft("raft quota 1;" + HOLDER.repeat(8)).floats(256), -3);
    }

    private static void pieces() {
        Check.promise(8, "pieces");
        RaftHold x = Check.raft("raft quota 1;" + HOLDER.repeat(8) + "by 7 0;by 0 6;by 6 1;by 1 5;by 2 3;");
        due("all", x.pieces(255), 3);
        due("a chain out of order", x.pieces(0b11100011), 1);
        due("its middle out", x.pieces(0b10100011), 2);
        due("nobody", x.pieces(0), 0);
        due("one", x.pieces(16), 1);
        due("two apart", x.pieces(0b10100), 2);
        x.go(0);
        due("of a set, whoever holds", x.pieces(255), 3);
        due("others", x.pieces(256), -3);
        due("others", x.pieces(-1), -3);
    }

    private static void weeks() {
        Check.promise(9, "weeks");
        RaftHold x = Check.raft(holders(1, 1, 1, 1) + "lets : all = who + 1;");
        due("0", x.weeks(0), -3);
        due("100", x.weeks(100), -3);
        due("-1", x.weeks(-1), -3);
        due("nothing is undone", x.count(8), 0);
        due("one", x.weeks(1), 7);
        due("two more", x.weeks(2), 1);
        due("weeks", x.count(7), 3);
        due("all at once", Check.raft(holders(1, 1, 1) + "lets : all = 3;").weeks(1), 0);
        due("99", x.weeks(99), 0);
        due("weeks", x.count(7), 102);
        due("calls", x.count(8), 3);
        due("as all is ahead", Check.raft(holders(1, 1, 1) + "by 0 1;by 1 2;lets : near = 1;").weeks(1), 2);
        RaftHold still = Check.raft(holders(1));
        due("nobody lets go", still.weeks(5), 1);
        due("it can be undone", still.undo(1), 0);
        due("weeks", still.count(7), 0);
    }

    private static void goAndTake() {
        Check.promise(10, "go");
        RaftHold x = Check.raft(holders(3, 1, 0));
        due("it floats", x.go(2), 1);
        due("it sinks", x.go(0), 0);
        due("who holds", x.count(2), 2);
        due("again", x.go(0), -12);
        due("no such", x.go(3), -11);
        for (int p : WRONG) {
            due("go " + p, x.go(p), -11);
            due("take " + p, x.take(p), -11);
        }
        due("calls", x.count(8), 2);
        Check.promise(11, "take");
        due("it holds", x.take(1), -12);
        due("no such", x.take(3), -11);
        due("it sinks", x.take(2), 0);
        due("it floats", x.take(0), 1);
        due("who holds", x.count(2), 7);
        due("calls", x.count(8), 4);
    }

    private static void mendAndStorm() {
        Check.promise(12, "mend");
        RaftHold x = Check.raft(holders(3, 4));
        due("what it bore", x.mend(1, 9), 4);
        due("what it bore", x.mend(1, 0), 9);
        due("now", x.holder(1, 1), 0);
        due("10", x.mend(1, 10), -11);
        due("-1", x.mend(1, -1), -11);
        due("no such", x.mend(2, 1), -11);
        due("no such", x.mend(-1, 1), -11);
        due("calls", x.count(8), 2);
        x.go(0);
        due("one who doesn't hold", x.mend(0, 7), 3);
        due("undone", x.undo(1), 3);
        due("it bears as ahead", x.holder(0, 1), 3);
        Check.promise(13, "storm");
        due("what it was", x.storm(9), 0);
        due("what it was", x.storm(0), 9);
        due("10", x.storm(10), -11);
        due("-1", x.storm(-1), -11);
        due("calls", x.count(8), 5);
        due("without people", new RaftHold().storm(4), 0);
    }

    private static void undo() {
        Check.promise(14, "undo");
        RaftHold x = Check.raft(holders(3, 4) + "storm 1;lets : who = 1;");
        due("nothing", x.undo(1), -3);
        x.weeks(2);
        x.mend(0, 8);
        x.storm(7);
        x.take(1);
        due("0", x.undo(0), -3);
        due("-1", x.undo(-1), -3);
        due("more than can be", x.undo(5), -3);
        due("11", x.undo(11), -3);
        due("the latest", x.undo(1), 3);
        due("who holds", x.count(2), 1);
        due("two", x.undo(2), 1);
        due("storm", x.count(6), 1);
        due("bears", x.holder(0, 1), 3);
        due("weeks stay", x.count(7), 2);
        due("the weeks", x.undo(1), 0);
        due("weeks", x.count(7), 0);
        due("who holds", x.count(2), 3);
        for (int i = 0; i < 13; i++) {
            x.storm(i % 10);
        }
        due("ten at most", x.count(8), 10);
        due("11", x.undo(11), -3);
        due("ten", x.undo(10), 0);
        due("eldest are forgotten", x.count(6), 2);
        x.go(0);
        x.go(0);
        due("what was refused isn't undone", x.count(8), 1);
        Check.tray(x, 0, 10);
        x.perform(0);
        due("what did nothing isn't undone", x.count(8), 1);
    }

    private static void judge() {
        Check.promise(15, "judge");
        RaftHold x = Check.raft(holders(3, 4) + "lets : who = 1;");
        due("missing", x.judge(3, 0), -6);
        due("what ahead of missing", x.judge(3, 4), -2);
        due("tray", x.judge(4, 0), -2);
        due("tray", x.judge(-1, 0), -2);
        Check.tray(x, 0);
        due("none", x.judge(0, 0), -1);
        due("none", x.judge(0, 1), 0);
        due("as it is", x.judge(0, 2), 3);
        due("as it is", x.judge(0, 3), 1);
        Check.tray(x, 0, 10, 20, 39, 0, 21, 11, 101, 0);
        due("all can be", x.judge(0, 0), -1);
        due("why", x.judge(0, 1), 0);
        due("who holds", x.judge(0, 2), 1);
        due("it sinks", x.judge(0, 3), 0);
        due("nothing is done", x.count(2), 3);
        due("nothing is done", x.count(8), 0);
        due("what", x.judge(0, 4), -2);
        due("what", x.judge(0, -1), -2);
        long[] no = {1, 9, 12, 19, 22, 29, 40, 99, 120, 199, 200, -1, Long.MIN_VALUE, 1L << 32, (1L << 32) + 10};
        for (long v : no) {
            Check.tray(x, 1, 30, 10, v, 0);
            due("place of " + v, x.judge(1, 0), 2);
            due("why not " + v, x.judge(1, 1), 1);
            due("done till " + v, x.judge(1, 2), 2);
            due("floats till " + v, x.judge(1, 3), 1);
        }
        Check.tray(x, 1, 10, 10);
        due("it doesn't hold", x.judge(1, 0), 1);
        due("it doesn't hold", x.judge(1, 1), 2);
        Check.tray(x, 1, 21);
        due("it holds", x.judge(1, 0), 0);
        due("it holds", x.judge(1, 1), 2);
        for (long v : new long[] {0, 10, 11, 30, 39, 100, 109, 110, 119}) {
            Check.tray(x, 1, v);
            due("can be " + v, x.judge(1, 0), -1);
        }
    }

    private static void perform() {
        Check.promise(16, "perform");
        RaftHold x = Check.raft(holders(3, 4) + "lets : who = 1 and storm > 5;");
        due("missing", x.perform(0), -6);
        due("tray", x.perform(4), -2);
        due("tray", x.perform(-1), -2);
        Check.tray(x, 0, 0, 36, 0, 119, 10, 10, 20);
        due("till one can't be", x.perform(0), 5);
        due("who holds", x.count(2), 0);
        due("weeks", x.count(7), 2);
        due("storm", x.count(6), 6);
        due("bears", x.holder(1, 1), 9);
        due("one call", x.count(8), 1);
        due("undone as a whole", x.undo(1), 0);
        due("who holds", x.count(2), 3);
        due("weeks", x.count(7), 0);
        due("storm", x.count(6), 0);
        due("bears", x.holder(1, 1), 4);
        Check.tray(x, 0);
        due("nothing", x.perform(0), 0);
        due("nothing", x.count(8), 0);
    }

    private static void year() {
        Check.promise(17, "year");
        RaftHold x = Check.raft(holders(3, 4, 5) + "lets : who = storm;");
        for (int times : new int[] {0, 41, -1, Integer.MAX_VALUE}) {
            due("times " + times, x.year(1, times), -3);
        }
        int[] seeds = {0, 1, -1, 7, 12345, Integer.MIN_VALUE, Integer.MAX_VALUE, 99};
        for (int seed : seeds) {
            for (int times : new int[] {1, 2, 40}) {
                yearByHand(seed, times);
            }
        }
    }

    /** Draws as the document tells, and does the same by single calls. */
    private static void yearByHand(int seed, int times) {
        String text = holders(3, 4, 5) + "lets : who = storm;";
        RaftHold x = Check.raft(text);
        RaftHold y = Check.raft(text);
        int[] s = {seed};
        int could = 0;
        for (int i = 0; i < times; i++) {
            int k = draw(s) % 6;
            int answer;
            if (k < 2) {
                answer = y.weeks(1);
            } else if (k == 2) {
                answer = y.go(draw(s) % 8);
            } else if (k == 3) {
                answer = y.take(draw(s) % 8);
            } else if (k == 4) {
                answer = y.storm(draw(s) % 10);
            } else {
                int p = draw(s) % 8;
                answer = y.mend(p, draw(s) % 10);
            }
            could += answer >= 0 ? 1 : 0;
        }
        due("year " + seed + " " + times, x.year(seed, times), could);
        for (int what = 0; what < 8; what++) {
            due("count behind the year", x.count(what), y.count(what));
        }
        due("one call", x.count(8), could > 0 ? 1 : 0);
        for (int p = 0; p < 3; p++) {
            due("bears behind the year", x.holder(p, 1), y.holder(p, 1));
        }
    }

    private static int draw(int[] x) {
        x[0] = x[0] * 1103515245 + 12345;
        return x[0] >>> 16;
    }

    private static void settling() {
        Check.promise(18, "settles");
        String chain = holders(2, 2, 2, 2) + "by 0 1;by 1 2;by 2 3;lets : gone > 0;";
        RaftHold x = Check.raft(chain);
        due("all", x.settles(15, 0), 15);
        due("at once", x.settles(15, 1), 0);
        due("from the end", x.settles(7, 0), 0);
        due("weeks", x.settles(7, 1), 3);
        due("nobody", x.settles(0, 1), 0);
        due("what", x.settles(0, 2), -2);
        due("what ahead of the set", x.settles(99, 2), -2);
        due("set", x.settles(16, 0), -3);
        due("set", x.settles(-1, 1), -3);
        due("eight weeks", Check.raft("raft quota 1;" + HOLDER.repeat(8) + "lets : all = who + 1;").settles(255, 1), 8);
        due("nothing is done", x.count(7) + x.count(8), 0);
        Check.promise(19, "when");
        due("never", x.when(0), -1);
        x.go(3);
        due("it doesn't hold", x.when(3), -1);
        due("next", x.when(2), 1);
        due("then", x.when(1), 2);
        due("then", x.when(0), 3);
        due("no such", x.when(4), -2);
        due("no such", x.when(-1), -2);
        due("eighth week", Check.raft("raft quota 1;" + HOLDER.repeat(8) + "lets : all = who + 1;").when(0), 8);
        Check.promise(20, "sinks");
        due("second week", x.sinks(), 2);
        x.weeks(1);
        due("first week", x.sinks(), 1);
        x.weeks(1);
        due("now", x.sinks(), 0);
        due("never", Check.raft(chain).sinks(), -1);
        due("when all has settled", Check.raft("raft quota 1;" + HOLDER.repeat(8)
            + "lets : all = who + 1;floats : all > 0;").sinks(), 8);
        due("first of several", Check.raft(holders(1, 1, 1) + "lets : all = who + 1;floats : not all = 2;").sinks(), 1);
        Check.promise(21, "steady");
        due("all and nobody", x.steady(), 2);
        due("without a law", Check.raft(holders(1, 1, 1)).steady(), 8);
        due("of all people", Check.raft(holders(1, 1, 1) + "lets : who = 0;").steady(), 4);
        due("without people", new RaftHold().steady(), 1);
    }

    private static void starts() {
        Check.promise(22, "starts");
        RaftHold x = Check.raft(holders(2, 2, 1, 0));
        due("how many", x.starts(0, 0), 1);
        due("the least of like ones", x.starts(0, 1), 1);
        due("nobody holds then", x.starts(1, 0), 4);
        due("nobody holds then", x.starts(1, 1), 15);
        x.go(0);
        due("it sinks so", x.starts(0, 0), 0);
        due("it sinks so", x.starts(0, 1), 0);
        due("those who hold now", x.starts(1, 1), 14);
        due("what", x.starts(0, 2), -2);
        due("kind", x.starts(2, 0), -2);
        due("kind", x.starts(-1, 0), -2);
        due("what", x.starts(0, -1), -2);
        RaftHold chain = Check.raft(holders(1, 1, 1, 1, 1) + "by 0 1;by 1 2;by 2 3;lets : gone > 0;floats : all > 0;");
        due("by a chain", chain.starts(1, 0), 2);
        due("by a chain", chain.starts(1, 1), 17);
        due("when it has settled", chain.starts(0, 1), 17);
        RaftHold never = Check.raft(holders(1, 1) + "floats : 1 = 1;");
        due("by no set", never.starts(0, 0), -1);
        due("by no set", never.starts(0, 1), -1);
        due("in some week only", Check.raft(holders(1, 1, 1) + "lets : all = who + 1 and all < 3;floats : not all = 1;")
            .starts(0, 1), 1);
        due("it sinks anyhow", Check.raft(holders(1, 1) + "lets : 1 = 1;").starts(0, 0), 0);
        due("nobody holds anyhow", Check.raft(holders(1, 1) + "lets : 1 = 1;").starts(1, 0), 0);
        due("of like ones the least, not the first", Check.raft(holders(1, 1, 1, 1) + "floats : bears > 2;").starts(0, 1), 3);
    }

    private static void spark() {
        Check.promise(23, "spark");
        RaftHold x = Check.raft(holders(1, 1, 1, 1) + "by 1 2;by 2 3;lets : gone > 0;");
        due("the first", x.spark(0), 1);
        due("how many", x.spark(1), 1);
        due("what", x.spark(2), -2);
        due("what", x.spark(-1), -2);
        x.go(1);
        due("of those who hold", x.spark(0), 0);
        due("how many", x.spark(1), 0);
        x.weeks(9);
        x.go(0);
        due("nobody holds", x.spark(0), -1);
        due("nobody holds", x.spark(1), -1);
        due("what ahead of none", x.spark(2), -2);
        due("without a law", Check.raft(holders(1, 1)).spark(1), 1);
    }

    private static void cut() {
        Check.promise(24, "cut");
        RaftHold x = Check.raft("raft quota 1;" + HOLDER.repeat(6) + "by 0 1;by 0 2;by 1 3;by 2 3;by 3 4;");
        due("two ways", x.cut(0, 3, 0), 2);
        due("two ways", x.cut(0, 3, 1), 6);
        due("one way", x.cut(0, 4, 0), 1);
        due("one way", x.cut(4, 0, 1), 8);
        due("apart so", x.cut(0, 5, 0), 0);
        due("apart so", x.cut(5, 0, 1), 0);
        due("beside", x.cut(0, 1, 0), -1);
        due("beside", x.cut(1, 0, 1), -1);
        due("both one", x.cut(2, 2, 0), -2);
        due("no such", x.cut(0, 6, 0), -2);
        due("no such", x.cut(-1, 0, 0), -2);
        due("what", x.cut(0, 3, 2), -2);
        x.go(1);
        due("of those who hold", x.cut(0, 3, 1), 4);
        due("one doesn't hold", x.cut(1, 3, 0), -5);
        due("one doesn't hold", x.cut(3, 1, 0), -5);
        due("what ahead", x.cut(3, 1, 2), -2);
        due("of like ones the least", Check.raft(holders(1, 1, 1, 1) + "by 0 1;by 1 2;by 2 3;").cut(0, 3, 1), 2);
    }

    private static void leastAndNeeded() {
        Check.promise(25, "least");
        RaftHold x = Check.raft(holders(1, 2, 2, 1));
        due("how many", x.least(0), 2);
        due("the least of like ones", x.least(1), 6);
        x.go(1);
        due("of all people", x.least(1), 6);
        due("what", x.least(2), -2);
        due("what", x.least(-1), -2);
        due("by each it sinks", Check.raft(holders(0, 0)).least(0), -1);
        due("by each it sinks", Check.raft(holders(0, 0)).least(1), -1);
        due("nobody", Check.raft(holders(0, 0) + "floats : all = 0;").least(0), 0);
        Check.promise(26, "needed");
        due("it sinks now", Check.raft(holders(0, 0)).needed(), 0);
        due("those without whom", Check.raft(holders(4, 2, 1, 0)).needed(), 1);
        RaftHold y = Check.raft(holders(4, 2, 1, 0) + "floats : bears > 5;");
        due("two", y.needed(), 3);
        y.go(0);
        due("it sinks", y.needed(), 0);
        due("one is too many", Check.raft(holders(1, 1, 1) + "floats : all = 3;").needed(), 7);
    }

    private static String voters(int quota, int... votes) {
        StringBuilder s = new StringBuilder("raft quota ").append(quota).append(";");
        for (int v : votes) {
            s.append("holder bears 1 weight 1 votes ").append(v).append(";");
        }
        return s.toString();
    }

    private static void power() {
        Check.promise(27, "power");
        RaftHold x = Check.raft(voters(4, 3, 2, 1));
        int[][] want = {{2, 3}, {1, 6}, {1, 6}};
        for (int p = 0; p < 3; p++) {
            due("above " + p, x.power(p, 0), want[p][0]);
            due("below " + p, x.power(p, 1), want[p][1]);
        }
        x.go(0);
        due("whoever holds", x.power(0, 0), 2);
        due("what", x.power(0, 2), -2);
        due("no such", x.power(3, 0), -2);
        due("no such", x.power(-1, 1), -2);
        RaftHold alone = Check.raft(voters(3, 3, 1, 1));
        due("all", alone.power(0, 0) * 10 + alone.power(0, 1), 11);
        due("none", alone.power(1, 0) * 10 + alone.power(1, 1), 1);
        RaftHold less = Check.raft(voters(9, 3, 1, 1));
        due("all are less", less.power(0, 0) * 10 + less.power(0, 1), 1);
        RaftHold eight = Check.raft(voters(5, 1, 1, 1, 1, 1, 1, 1, 1));
        due("eight", eight.power(7, 0) * 10 + eight.power(7, 1), 18);
        RaftHold one = Check.raft(voters(8, 9, 1, 1, 1, 1, 1, 1, 1));
        due("seven can't", one.power(0, 0) * 10 + one.power(0, 1), 11);
        RaftHold seven = Check.raft(voters(7, 9, 1, 1, 1, 1, 1, 1, 1));
        due("seven can", seven.power(0, 0) * 10 + seven.power(0, 1), 78);
        due("seven can", seven.power(1, 0) * 100 + seven.power(1, 1), 156);
    }

    private static void votes() {
        Check.promise(28, "dummies");
        due("nobody", Check.raft(voters(4, 3, 2, 1)).dummies(), 0);
        due("two", Check.raft(voters(3, 3, 1, 1)).dummies(), 6);
        due("no votes", Check.raft(voters(1, 0, 1, 0)).dummies(), 5);
        due("all are less", Check.raft(voters(9, 3, 1, 1)).dummies(), 7);
        Check.promise(29, "swings");
        RaftHold x = Check.raft(voters(4, 3, 2, 1));
        due("swings 0", x.swings(0), 3);
        due("swings 1", x.swings(1), 1);
        due("swings 2", x.swings(2), 1);
        due("no such", x.swings(3), -2);
        due("no such", x.swings(-1), -2);
        due("the same as the quota", Check.raft(voters(3, 3)).swings(0), 1);
        due("less", Check.raft(voters(4, 3)).swings(0), 0);
        Check.promise(30, "winning");
        due("how many", x.winning(0), 2);
        due("the smallest", x.winning(1), 2);
        due("what", x.winning(2), -2);
        due("what", x.winning(-1), -2);
        due("one of no votes is too many", Check.raft(voters(3, 3, 0)).winning(0), 1);
        due("none", Check.raft(voters(9, 3, 0)).winning(0), 0);
        due("none", Check.raft(voters(9, 3, 0)).winning(1), -1);
        due("the smallest", Check.raft(voters(3, 1, 1, 1, 3)).winning(1), 1);
        due("both", Check.raft(voters(3, 1, 1, 1, 3)).winning(0), 2);
    }

    private static RaftHold likers(String... likes) {
        StringBuilder s = new StringBuilder("raft quota 1;");
        for (String l : likes) {
            s.append("holder bears 1 weight 1 ").append(l).append(";");
        }
        return Check.raft(s.toString());
    }

    private static void islands() {
        Check.promise(31, "beats");
        RaftHold x = likers("votes 3 likes 5 1 1", "votes 2 likes 1 5 1", "votes 2 likes 0 9 9", "votes 0 likes 0 0 9");
        due("0 and 1", x.beats(0, 1), -1);
        due("1 and 0", x.beats(1, 0), 1);
        due("0 and 2", x.beats(0, 2), 1);
        due("1 and 2", x.beats(1, 2), 1);
        due("with itself", x.beats(2, 2), 0);
        due("neither", likers("votes 2 likes 1 0 0", "likes 0 1 0", "likes 0 1 0").beats(0, 1), 0);
        for (int i : new int[] {-1, 3}) {
            due("no such", x.beats(i, 0), -2);
            due("no such", x.beats(0, i), -2);
        }
        x.go(1);
        due("whoever holds", x.beats(1, 0), 1);
        Check.promise(32, "island");
        due("both others", x.island(0), 1);
        due("not round", x.island(1), 0);
        due("what", x.island(2), -2);
        due("what", x.island(-1), -2);
        RaftHold up = likers("likes 3 2 1", "likes 1 3 2", "likes 2 1 3");
        due("none", up.island(0), -1);
        due("round", up.island(1), 1);
        RaftHold down = likers("likes 1 2 3", "likes 2 3 1", "likes 3 1 2");
        due("none", down.island(0), -1);
        due("round the other way", down.island(1), 1);
        due("one as good as another", likers("likes 2 2 1").island(0), -1);
        due("the last", likers("likes 2 2 3").island(0), 2);
        due("the first", likers("likes 4 2 3").island(0), 0);
    }

    private static void places() {
        Check.promise(33, "placing");
        RaftHold x = Check.raft(holders(1, 1, 1, 1) + "by 0 1;by 1 2;by 2 0;quarrel 0 1;quarrel 1 2;quarrel 0 2;");
        due("the fewest", x.placing(0), 1);
        int[] want = {0, 1, 3, 2};
        for (int p = 0; p < 4; p++) {
            due("place " + p, x.placing(10 + p), want[p]);
        }
        for (int what : new int[] {-1, 1, 9, 14, 17, Integer.MIN_VALUE, Integer.MAX_VALUE}) {
            due("what " + what, x.placing(what), -2);
        }
        RaftHold turn = Check.raft(holders(1, 1, 1) + "by 0 1;by 1 2;quarrel 0 1;");
        due("none", turn.placing(0), 0);
        due("0 stays", turn.placing(10), 0);
        due("1 goes to 2", turn.placing(11), 2);
        due("2 goes to 1", turn.placing(12), 1);
        RaftHold round = Check.raft(holders(1, 1, 1) + "by 0 1;quarrel 0 1;quarrel 0 2;");
        due("not its own turned round", round.placing(10) * 100 + round.placing(11) * 10 + round.placing(12), 201);
        due("without people", new RaftHold().placing(0), 0);
        due("without people", new RaftHold().placing(10), -2);
        StringBuilder all = new StringBuilder("raft quota 1;").append(HOLDER.repeat(8));
        for (int p = 0; p < 8; p++) {
            for (int q = 0; q < p; q++) {
                if (p < 6 || q > 2) {
                    all.append("by ").append(p).append(' ').append(q).append(";quarrel ").append(p).append(' ').append(q).append(';');
                }
            }
        }
        RaftHold eight = Check.raft(all.toString());
        due("places are changed, people not", eight.quarrels(), 22);
        due("eight", eight.placing(0) <= 22 ? 1 : 0, 1);
        Check.promise(34, "quarrels");
        due("now", x.quarrels(), 3);
        x.go(0);
        due("whoever holds", x.quarrels(), 3);
        due("now", turn.quarrels(), 1);
        due("nobody beside", Check.raft(holders(1, 1) + "quarrel 0 1;").quarrels(), 0);
        due("nobody quarrels", Check.raft(holders(1, 1) + "by 0 1;").quarrels(), 0);
    }

    private static void tested() {
        Check.promise(35, "bearings");
        RaftHold x = Check.raft(holders(1, 2, 3) + "storm 2;floats : bears > storm + 3;");
        due("missing", x.bearings(0, 0), -6);
        due("tray", x.bearings(4, 0), -2);
        due("the one", x.bearings(0, 3), -2);
        due("the one ahead of missing", x.bearings(3, -1), -2);
        Check.tray(x, 0);
        due("no numbers", x.bearings(0, 0), -4);
        due("no numbers", x.storms(0), -4);
        Check.tray(x, 0, 0, 0, 0, 0, 0, 0, 0, 0, 99);
        due("nine ahead of no set", x.bearings(0, 0), -4);
        due("nine", x.storms(0), -4);
        Check.tray(x, 0, 0, 0, 0, 0, 0, 0, 0, 15);
        due("eight", x.bearings(0, 0), 0b1111111110);
        for (long v : new long[] {16, 17, -1, Long.MIN_VALUE, 1L << 33, 1L << 40 | 1}) {
            Check.tray(x, 0, 0, v);
            due("no set " + v, x.bearings(0, 0), -3);
            due("no set " + v, x.storms(0), -3);
            due("no set " + v, x.attempt(0, 0), -3);
        }
        Check.tray(x, 0, 2 * 3 + 1, 2 * 1);
        due("two tests", x.bearings(0, 0), 0b0000110000);
        due("one who isn't in it", x.bearings(0, 2), 0);
        due("nothing is done", x.count(8), 0);
        due("it bears as it did", x.holder(0, 1), 1);
        due("who holds as it did", x.count(2), 7);
        Check.promise(36, "storms");
        Check.tray(x, 0, 2 * 7 + 1);
        due("storms", x.storms(0), 0b111);
        Check.tray(x, 0, 2 * 7);
        due("storms", x.storms(0), 0b1111111000);
        Check.tray(x, 0, 2 * 7, 2 * 7 + 1);
        due("none", x.storms(0), 0);
        due("tray", x.storms(4), -2);
        due("tray", x.storms(-1), -2);
        due("missing", x.storms(3), -6);
        RaftHold nobody = new RaftHold();
        Check.tray(nobody, 0, 1);
        due("without people it floats", nobody.storms(0), 1023);
        Check.tray(nobody, 0, 0);
        due("without people it floats", nobody.storms(0), 0);
        Check.tray(nobody, 0, 2);
        due("without people", nobody.storms(0), -3);
    }

    private static void attempt() {
        Check.promise(37, "attempt");
        RaftHold x = Check.raft(holders(1, 2, 3) + "floats : bears > 5;");
        Check.tray(x, 0, 0);
        due("4 of 10 by 1 alone, no better by 3", x.attempt(0, 0), 1);
        due("what it can", x.bearings(0, 0), 1023);
        Check.tray(x, 0, 2 * 1 + 1);
        due("6 to 9", x.bearings(0, 0), 0b1111000000);
        due("all by each", x.attempt(0, 0), 0);
        Check.tray(x, 0, 2 * 1 + 1, 2 * 5);
        due("none", x.bearings(0, 0), 0);
        due("none", x.attempt(0, 0), -1);
        due("missing", x.attempt(1, 0), -6);
        due("tray", x.attempt(4, 0), -2);
        due("the one", x.attempt(1, 3), -2);
        Check.tray(x, 1);
        due("no numbers", x.attempt(1, 0), -4);
        Check.tray(x, 1, 2 * 3, 2 * 5 + 1);
        due("3 is known", x.bearings(1, 0), 0b1000);
        due("the first", x.attempt(1, 0), 0);
        Check.tray(x, 1, 2 * 1, 2 * 5 + 1);
        due("3, 4, 5", x.bearings(1, 0), 0b111000);
        due("1 or 2 of them", x.attempt(1, 0), 3);
    }

    private static void turns() {
        Check.promise(38, "sides");
        RaftHold x = Check.raft(holders(1, 1, 1, 1) + "floats : all > 1;");
        due("the others lose", x.sides(1), 1);
        due("two of each", x.sides(3), -1);
        due("those of the set", x.sides(15), -1);
        due("they do so though none is theirs", x.sides(0), 1);
        x.go(3);
        due("those of the set", x.sides(1), 1);
        due("others", x.sides(16), -3);
        due("others", x.sides(-1), -3);
        x.go(2);
        x.go(1);
        due("it sinks now", x.sides(1), -5);
        due("others ahead", x.sides(99), -3);
        due("nobody", Check.raft(holders(1, 1) + "floats : 1 = 1;").sides(1), 0);
        due("when nobody holds", Check.raft("raft quota 1;holder bears 1 weight 0 loose;").sides(0), 0);
        due("in some week", Check.raft(holders(1, 1, 1) + "lets : all = who + 1 and all < 3;floats : not all = 1;").sides(1), -1);
        due("settling without letting go", Check.raft(holders(1, 1) + "lets : who = 1;floats : all > 1;").sides(0), -1);
        due("no settling ahead of the first", Check.raft(holders(1, 1) + "lets : who = 1 and all = 2;floats : all > 0;").sides(1), 1);
        Check.promise(39, "best");
        RaftHold y = Check.raft(holders(1, 1, 1) + "floats : all > 1 or all = 0;lets : who = 1 and all = 2;");
        due("others", y.best(8), -3);
        due("none of theirs", y.best(0), -1);
        RaftHold z = Check.raft(holders(3, 1, 1) + "floats : bears > 3;");
        due("all are alike", z.best(7), 0);
        due("not the first", z.best(3), 1);
        due("their only one", z.best(1), 0);
        due("others lose", z.sides(6), 1);
        due("theirs", z.best(6), 1);
        z.go(1);
        due("none of theirs holds", z.best(2), -1);
        z.go(2);
        due("it sinks now", z.best(1), -5);
        due("it sinks now", z.best(0), -5);
        due("others ahead", z.best(8), -3);
    }

    private static void chances() {
        Check.promise(40, "chance");
        RaftHold x = Check.raft(holders(3, 1, 0));
        due("now", x.chance(0, 0) * 10 + x.chance(0, 1), 11);
        due("above", x.chance(1, 0), 9);
        due("below", x.chance(1, 1), 10);
        due("two weeks", x.chance(2, 0), 81);
        due("two weeks", x.chance(2, 1), 100);
        due("eight weeks", x.chance(8, 0), 43046721);
        due("eight weeks", x.chance(8, 1), 100000000);
        due("what", x.chance(1, 2), -2);
        due("what ahead of n", x.chance(9, 2), -2);
        due("n", x.chance(9, 0), -3);
        due("n", x.chance(-1, 1), -3);
        RaftHold y = Check.raft(holders(3, 1) + "lets : who = 0;");
        due("first a week", y.chance(1, 0), 0);
        due("first a week", y.chance(1, 1), 1);
        RaftHold z = Check.raft(holders(1, 1) + "floats : all = 1;");
        due("in lowest terms", z.chance(1, 0), 1);
        due("in lowest terms", z.chance(1, 1), 5);
        due("it may float again", z.chance(2, 0), 17);
        due("it may float again", z.chance(2, 1), 50);
        Check.promise(41, "mean");
        due("now", x.mean(0, 0) * 10 + x.mean(0, 1), 31);
        due("one week", x.mean(1, 0), 27);
        due("one week", x.mean(1, 1), 10);
        due("with a law", y.mean(1, 0) * 100 + y.mean(1, 1), 910);
        due("eight people, eight weeks", Check.raft("raft quota 1;" + HOLDER.repeat(8)).mean(8, 0), 43046721);
        due("eight people, eight weeks", Check.raft("raft quota 1;" + HOLDER.repeat(8)).mean(8, 1), 12500000);
        due("nobody", new RaftHold().mean(8, 0), 0);
        due("nobody", new RaftHold().mean(8, 1), 1);
        due("what", x.mean(1, 2), -2);
        due("what ahead of n", x.mean(-1, -1), -2);
        due("n", x.mean(9, 0), -3);
        due("nothing is done", x.count(7) + x.count(8), 0);
    }

    private static void trays() {
        Check.promise(42, "numbers");
        RaftHold x = new RaftHold();
        due("tray", x.numbers(4, 0, 0), -2);
        due("tray", x.numbers(-1, 0, 0), -2);
        due("sort", x.numbers(0, 4, 0), -2);
        due("sort", x.numbers(0, -1, 0), -2);
        due("sort ahead of n", x.numbers(0, 4, 41), -2);
        due("n", x.numbers(0, 0, 41), -3);
        due("n", x.numbers(0, 0, -1), -3);
        due("it is missing still", x.write(0, 0, 1), -6);
        due("40", x.numbers(3, 3, 40), 0);
        due("all are 0", x.judge(3, 0), -1);
        x.write(3, 39, 5);
        due("the last", x.judge(3, 0), 39);
        due("n", x.numbers(3, 3, 41), -3);
        due("it stays", x.judge(3, 0), 39);
        due("another one", x.numbers(3, 0, 40), 0);
        due("all are 0", x.judge(3, 0), -1);
        Check.promise(43, "write");
        long[] values = {0, 1, -1, 127, 128, 255, 256, 32767, 32768, 65536, 2147483647L, 2147483648L, Long.MAX_VALUE, Long.MIN_VALUE};
        for (long v : values) {
            for (int sort = 0; sort < 4; sort++) {
                x.numbers(1, sort, 2);
                long want = sort == 0 ? (byte) v : sort == 1 ? (short) v : sort == 2 ? (int) v : v;
                due("write " + v + " of sort " + sort, x.write(1, 1, v), want);
            }
        }
        due("no such number", x.write(1, 2, 0), -7);
        due("no such number", x.write(1, -1, 0), -7);
        due("missing ahead", x.write(2, -1, 0), -6);
        due("tray", x.write(4, 0, 0), -2);
        due("tray", x.write(-1, -1, 0), -2);
        x.numbers(1, 0, 0);
        due("none", x.write(1, 0, 0), -7);
        x.numbers(1, 0, 1);
        x.write(1, 0, 256 + 30);
        due("as it is there", x.perform(1), 1);
    }

    private static void lists() {
        Check.promise(44, "lists");
        RaftHold x = Check.raft(holders(1, 1, 1, 1) + "lets : all = who + 1 and who > 1;");
        due("missing", x.lists(0), -6);
        due("tray", x.lists(4), -2);
        due("tray", x.lists(-1), -2);
        x.numbers(0, 0, 0);
        due("no places", x.lists(0), 0);
        x.numbers(0, 0, 3);
        due("as many as it has places", x.lists(0), 3);
        due("nothing is done", x.count(2), 15);
        due("nothing is done", x.count(7) + x.count(8), 0);
        due("7, 3, 3 aren't deeds", x.judge(0, 0), 0);
        due("7, 3, 3 as tests: it floats with 3, with 1", x.bearings(0, 0), 0b1111110000);
        RaftHold y = Check.raft("raft quota 1;" + HOLDER.repeat(5) + "lets : storm = 0 and all = who + 1 and who > 3 or storm = 1 and who < 4;");
        y.storm(1);
        y.numbers(0, 0, 1);
        due("16 is listed", y.lists(0), 1);
        due("16 is a deed of nobody", y.judge(0, 1), 1);
        due("16 as a test of 8: it sinks with it", y.storms(0), 1023);
        RaftHold z = Check.raft("raft quota 1;" + HOLDER.repeat(8));
        z.numbers(0, 0, 1);
        z.lists(0);
        due("255 is cut to 8 bits", z.storms(0), -3);
        z.numbers(0, 1, 1);
        z.lists(0);
        due("255 in 16 bits: 7 hold and it floats", z.storms(0), 0);
        RaftHold w = Check.raft("raft quota 1;" + HOLDER.repeat(8) + "lets : who < 3 or who = 4;floats : all = 3;");
        w.numbers(0, 1, 8);
        w.lists(0);
        due("232 hold: a test of 116", w.storms(0), 1023);
    }

    private static void images() {
        Check.promise(45, "image");
        RaftHold x = new RaftHold();
        due("image", x.image(0), 0);
        due("no such", x.image(2), -2);
        due("no such", x.image(-1), -2);
        Check.tell(x, "raft quota 7;holder bears 3 weight 2;" + HOLDER + "storm 2;lets : who = 1;floats : all > 0;");
        x.mend(0, 5);
        x.weeks(1);
        due("image", x.image(1), 0);
        due("what can be undone stays", x.count(8), 2);
        x.storm(9);
        x.go(0);
        x.mend(0, 1);
        x.weeks(3);
        Check.promise(46, "restore");
        due("no such", x.restore(2), -2);
        due("no such", x.restore(-1), -2);
        due("none", new RaftHold().restore(1), -5);
        Check.tell(x, "raft quota 1;" + HOLDER.repeat(3) + "by 0 1;");
        Check.feed(x, "raft quota 3;       ");
        x.numbers(2, 0, 3);
        due("restore", x.restore(1), 0);
        int[] want = {2, 7, 1, 5, 3, 1, 2, 1, 0, 20, 6};
        for (int what = 0; what < want.length; what++) {
            due("count " + what, x.count(what), want[what]);
        }
        due("bears", x.holder(0, 1), 5);
        due("beside", x.holder(0, 4), 0);
        due("nothing can be undone", x.undo(1), -3);
        x.take(1);
        due("its law", x.lets(1), 1);
        due("trays stay", x.perform(2), 3);
        x.go(0);
        due("again", x.restore(1), 0);
        due("who holds", x.count(2), 1);
        due("the other", x.restore(0), 0);
        due("nobody", x.count(0), 0);
        due("lines", x.count(10), 0);
        due("quota", x.count(1), 1);
        due("the tape stays", x.raft(20), 1);
        due("quota", x.count(1), 3);
        Check.tell(x, "raft quota 0;");
        x.restore(1);
        due("the fault stays", x.fault(0), 3);
        x.image(0);
        x.restore(0);
        due("written over", x.count(0), 2);
    }

    private static void count() {
        Check.promise(47, "count");
        RaftHold x = Check.raft("raft quota 5;holder bears 4 weight 2;holder bears 3 weight 3 loose;holder bears 2 weight 1;storm 6;");
        Check.feed(x, "x");
        x.storm(7);
        x.weeks(4);
        int[] want = {3, 5, 5, 6, 6, 1, 7, 4, 2, 20, 5};
        for (int what = 0; what < want.length; what++) {
            due("count " + what, x.count(what), want[what]);
        }
        x.go(2);
        due("they bear", x.count(3), 4);
        due("all weights", x.count(4), 6);
        due("it sinks", x.count(5), 0);
        due("others", x.count(11), -1);
        due("others", x.count(-1), -1);
        due("others", x.count(Integer.MIN_VALUE), -1);
    }
}
