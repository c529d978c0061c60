/** The bounds that the document names for the raft as it is, deeds, undoing and settling: promises 1 and 5 to 21. */
public final class DeedEdgesTest {
    private static final String RAFT = "raft quota 1;";
    private static final String HOLDER = "holder bears 1 weight 1;";
    private static final String CHAIN = RAFT + HOLDER.repeat(8) + "lets : all = who + 1;";

    public static void main(String[] args) {
        nobodyDoesAnything();
        nobodyIsAsked();
        lastOfThePeople();
        floatsByAsMuch();
        floatsWithoutPeople();
        piecesOfSets();
        aWeekIsAtOnce();
        weeksFrom1To99();
        goAndTakeOfTheLast();
        mendFrom0To9();
        stormFrom0To9();
        undoFrom1To10();
        eldestAreForgotten();
        eachCallAsAWhole();
        whatDidNothing();
        deedsByNumbers();
        firstPlaceThatCant();
        emptyAndFullTrays();
        yearFrom1To40();
        settlesFrom0To8();
        whenFrom1To8();
        sinksFrom0To8();
        steadySets();
        Check.end();
    }

    private static void due(String call, long got, long want) {
        Check.due(call, got, want);
    }

    private static RaftHold raft(String lines) {
        return Check.raft(RAFT + lines);
    }

    private static void nobodyDoesAnything() {
        Check.promise(1, "a new object");
        RaftHold x = new RaftHold();
        due("weeks", x.weeks(1), 0);
        due("weeks", x.weeks(99), 0);
        due("they are weeks", x.count(7), 100);
        due("storm", x.storm(9), 0);
        due("it is that storm", x.count(6), 9);
        due("they can be undone", x.count(8), 3);
        Check.tray(x, 0, 0, 39, 0, 10);
        due("deeds", x.perform(0), 3);
        due("who isn't told", x.judge(0, 1), 1);
        due("undone", x.undo(4), 0);
        due("no week", x.count(7), 0);
        due("no storm", x.count(6), 0);
        x.numbers(1, 0, 40);
        due("lists", x.lists(1), 40);
        due("image", x.image(1), 0);
        due("restore", x.restore(1), 0);
        for (int seed = 0; seed < 30; seed++) {
            x.year(seed, 40);
            due("nobody", x.count(0) + x.count(2) + x.count(3) + x.count(4), 0);
            due("it floats", x.count(5), 1);
        }
    }

    private static void nobodyIsAsked() {
        Check.promise(1, "a new object");
        RaftHold[] empty = {new RaftHold(), raft("storm 9;lets:1=1;floats:1=2;")};
        for (RaftHold x : empty) {
            due("floats", x.floats(0), 1);
            due("pieces", x.pieces(0), 0);
            due("settles", x.settles(0, 0) + x.settles(0, 1), 0);
            due("sinks", x.sinks(), -1);
            due("steady", x.steady(), 1);
            for (int what = 0; what < 2; what++) {
                due("starts 0", x.starts(0, what), -1);
                due("starts 1", x.starts(1, what), 0);
                due("spark", x.spark(what), -1);
                due("least", x.least(what), 0);
                due("winning", x.winning(what), what == 0 ? 0 : -1);
                due("island", x.island(what), what == 0 ? -1 : 0);
                for (int n = 0; n <= 8; n++) {
                    due("chance", x.chance(n, what), 1);
                    due("mean", x.mean(n, what), what);
                }
            }
            due("needed", x.needed(), 0);
            due("dummies", x.dummies(), 0);
            due("beats", x.beats(2, 0), 0);
            due("placing", x.placing(0), 0);
            due("quarrels", x.quarrels(), 0);
            due("sides", x.sides(0), 0);
            due("best", x.best(0), -1);
        }
    }

    private static void lastOfThePeople() {
        RaftHold x = raft(HOLDER.repeat(7) + "holder bears 9 weight 9 votes 9 likes 7 8 9;by 7 6;quarrel 0 7;lets:who=7;");
        Check.promise(5, "holder");
        int[] whats = {0, 1, 2, 3, 4, 5, 10, 11, 12};
        int[] last = {1, 9, 9, 9, 64, 1, 7, 8, 9};
        int[] first = {1, 1, 1, 1, 0, 128, 0, 0, 0};
        for (int i = 0; i < whats.length; i++) {
            due("the last's " + whats[i], x.holder(7, whats[i]), last[i]);
            due("the first's " + whats[i], x.holder(0, whats[i]), first[i]);
        }
        for (int what = -2; what <= 14; what++) {
            boolean told = what >= 0 && what <= 5 || what >= 10 && what <= 12;
            due("what " + what, x.holder(7, what) == -2 ? 0 : 1, told ? 1 : 0);
        }
        due("one behind the last", x.holder(8, 0), -2);
        Check.promise(6, "lets");
        due("the last", x.lets(7), 1);
        due("the one ahead", x.lets(6), 0);
        due("one behind the last", x.lets(8), -2);
        x.go(7);
        due("it doesn't hold", x.lets(7), 0);
        due("it doesn't hold", x.holder(7, 0), 0);
    }

    private static void floatsByAsMuch() {
        Check.promise(7, "floats");
        RaftHold x = raft("holder bears 4 weight 3;holder bears 3 weight 4;");
        due("as much as the weights", x.floats(3), 1);
        x.mend(0, 3);
        due("one less", x.floats(3), 0);
        x.mend(0, 5);
        due("one more", x.floats(3), 1);
        x.go(1);
        due("the weights of all, of whom some hold", x.count(5), 0);
        due("what holds alone bears", x.floats(1), 0);
        due("nobody holds nothing", raft("holder bears 9 weight 0;").floats(0), 1);
        due("nobody holds something", raft("holder bears 9 weight 1;").floats(0), 0);
        RaftHold full = raft("holder bears 9 weight 9;".repeat(8));
        due("all", full.floats(255), 1);
        due("all but one", full.floats(127), 0);
        due("others", full.floats(256), -3);
        due("others", full.floats(257), -3);
    }

    private static void floatsWithoutPeople() {
        Check.promise(7, "floats");
        due("by a law that never holds", raft("floats:1=2;").floats(0), 1);
        due("by a law that never holds", raft("floats:1=2;").count(5), 1);
        RaftHold one = raft("holder bears 9 weight 0;floats:1=2;");
        due("with people it sinks", one.floats(0) + one.floats(1) + one.count(5), 0);
        due("nobody holds, the law holds", raft("holder bears 0 weight 9 loose;floats:all=0;").count(5), 1);
        due("one holds, the law doesn't", raft("holder bears 9 weight 0;floats:all=0;").count(5), 0);
    }

    private static void piecesOfSets() {
        Check.promise(8, "pieces");
        RaftHold alone = raft(HOLDER.repeat(8));
        RaftHold row = raft(HOLDER.repeat(8) + "by 0 1;by 1 2;by 2 3;by 3 4;by 4 5;by 5 6;by 6 7;");
        for (int set = 0; set < 256; set++) {
            due("each for itself " + set, alone.pieces(set), Integer.bitCount(set));
            due("runs of a row " + set, row.pieces(set), Integer.bitCount(set & ~(set << 1)));
        }
        due("others", row.pieces(256), -3);
        RaftHold law = raft(HOLDER.repeat(8) + "by 0 1;by 1 2;floats:parts=0;");
        due("nobody has no parts", law.floats(0), 1);
        due("one has", law.floats(1), 0);
    }

    private static void aWeekIsAtOnce() {
        Check.promise(9, "weeks");
        due("without a law", raft(HOLDER.repeat(8)).weeks(99), 255);
        RaftHold row = raft(HOLDER.repeat(4) + "by 0 1;by 1 2;by 2 3;lets:gone>0;");
        row.go(0);
        due("none by those of the same week", row.weeks(1), 12);
        due("the next", row.weeks(1), 8);
        due("the last", row.weeks(1), 0);
        due("all in one", raft(HOLDER.repeat(8) + "lets:all=8;").weeks(1), 0);
        RaftHold all = raft(HOLDER.repeat(3) + "lets:all=3 and who=0 or all=2 and who=1;");
        due("all as ahead of the week", all.weeks(1), 6);
        due("then", all.weeks(1), 4);
        due("it counts itself", raft(HOLDER + "lets:all=1;").weeks(1), 0);
        due("nobody near nor gone", raft(HOLDER + "lets:near=0 and gone=0;").weeks(1), 0);
        due("one who doesn't hold stays so", raft("holder bears 1 weight 1 loose;lets:1=2;").weeks(1), 0);
    }

    private static void weeksFrom1To99() {
        Check.promise(9, "weeks");
        for (int n : new int[] {1, 2, 7, 8, 9, 98, 99}) {
            RaftHold x = Check.raft(CHAIN);
            due("weeks " + n, x.weeks(n), n < 8 ? (1 << 8 - n) - 1 : 0);
            due("they are counted", x.count(7), n);
            due("one call", x.count(8), 1);
            due("undone as a whole", x.undo(1), 0);
            due("who holds", x.count(2), 255);
            due("no weeks", x.count(7), 0);
        }
        RaftHold x = Check.raft(CHAIN);
        due("0", x.weeks(0), -3);
        due("100", x.weeks(100), -3);
        due("-1", x.weeks(-1), -3);
        due("nothing is done", x.count(7) + x.count(8), 0);
    }

    private static void goAndTakeOfTheLast() {
        RaftHold x = raft("holder bears 0 weight 1;".repeat(7) + "holder bears 7 weight 0;");
        Check.promise(10, "go");
        due("it floats still", x.go(0), 1);
        due("the last: it sinks", x.go(7), 0);
        due("again", x.go(7), -12);
        due("one behind", x.go(8), -11);
        due("one ahead", x.go(-1), -11);
        Check.promise(11, "take");
        due("it holds", x.take(6), -12);
        due("it sinks still", x.take(0), 0);
        due("the last: it floats", x.take(7), 1);
        due("again", x.take(7), -12);
        due("one behind", x.take(8), -11);
        due("one ahead", x.take(-1), -11);
        due("four calls", x.count(8), 4);
    }

    private static void mendFrom0To9() {
        Check.promise(12, "mend");
        RaftHold x = raft(HOLDER.repeat(2));
        int bore = 1;
        for (int n = -2; n <= 11; n++) {
            boolean can = n >= 0 && n <= 9;
            due("mend " + n, x.mend(1, n), can ? bore : -11);
            bore = can ? n : bore;
            due("it bears", x.holder(1, 1), bore);
            due("together", x.count(3), 1 + bore);
        }
        due("one behind", x.mend(2, 0), -11);
        due("one ahead", x.mend(-1, 9), -11);
        due("to what it bears", x.mend(1, 9), 9);
        due("the other bears as ahead", x.holder(0, 1), 1);
    }

    private static void stormFrom0To9() {
        Check.promise(13, "storm");
        RaftHold x = raft(HOLDER + "storm 3;floats:storm<9;");
        int was = 3;
        for (int n = -2; n <= 11; n++) {
            boolean can = n >= 0 && n <= 9;
            due("storm " + n, x.storm(n), can ? was : -11);
            was = can ? n : was;
            due("now", x.count(6), was);
            due("it floats by it", x.count(5), was < 9 ? 1 : 0);
        }
    }

    private static void undoFrom1To10() {
        Check.promise(14, "undo");
        for (int done = 0; done <= 12; done++) {
            int can = Math.min(done, 10);
            for (int n = -1; n <= 12; n++) {
                RaftHold x = stormy(done);
                due(done + " calls can be", x.count(8), can);
                boolean fits = n >= 1 && n <= can;
                due("undo " + n + " of " + done, x.undo(n), fits ? can - n : -3);
                int behind = fits ? done - n : done;
                due("storm", x.count(6), behind % 10);
                due("how many still", x.count(8), fits ? can - n : can);
            }
        }
    }

    /** So many storms, each its number. */
    private static RaftHold stormy(int calls) {
        RaftHold x = raft(HOLDER);
        for (int i = 1; i <= calls; i++) {
            x.storm(i % 10);
        }
        return x;
    }

    private static void eldestAreForgotten() {
        Check.promise(14, "undo: ten at most");
        RaftHold x = stormy(40);
        for (int i = 39; i >= 30; i--) {
            due("undo", x.undo(1), i - 30);
            due("the latest first", x.count(6), i % 10);
        }
        due("no eleventh", x.undo(1), -3);
        x.mend(0, 5);
        due("again", x.count(8), 1);
        due("again", x.undo(1), 0);
        due("as ahead", x.holder(0, 1), 1);
    }

    /** Each kind of call that did some is one, and brings back who holds, what parts bear, storm, weeks. */
    private static void eachCallAsAWhole() {
        Check.promise(14, "undo: each as a whole");
        for (int kind = 0; kind < 7; kind++) {
            RaftHold x = raft(HOLDER.repeat(3) + "storm 4;lets:storm>4;");
            x.go(2);
            x.weeks(2);
            doOne(x, kind);
            due("one more, kind " + kind, x.count(8), 3);
            due("undone", x.undo(1), 2);
            due("who holds", x.count(2), 3);
            due("what they bear", x.holder(0, 1) * 100 + x.holder(1, 1) * 10 + x.holder(2, 1), 111);
            due("storm", x.count(6), 4);
            due("weeks", x.count(7), 2);
            for (int i = 0; i < 9; i++) {
                doOne(x, 1 + (kind + i) % 2 * 3);
                x.undo(1);
                x.storm(i);
            }
            due("ten and one", x.count(8), 10);
        }
    }

    private static void doOne(RaftHold x, int kind) {
        Check.tray(x, 0, 35, 0, 22, 129, 10);
        switch (kind) {
            case 0 -> x.weeks(7);
            case 1 -> x.go(0);
            case 2 -> x.take(2);
            case 3 -> x.mend(2, 9);
            case 4 -> x.storm(9);
            case 5 -> x.perform(0);
            default -> x.year(12345, 40);
        }
    }

    private static void whatDidNothing() {
        Check.promise(14, "undo: calls that did none");
        RaftHold x = raft(HOLDER);
        x.mend(0, 1);
        x.storm(0);
        x.weeks(1);
        due("done though all is as ahead", x.count(8), 3);
        x.go(1);
        x.take(0);
        x.mend(0, 10);
        x.storm(10);
        x.weeks(0);
        x.undo(9);
        Check.tray(x, 0);
        x.perform(0);
        Check.tray(x, 0, 1, 0);
        x.perform(0);
        x.year(1, 0);
        due("refused and empty ones", x.count(8), 3);
        Check.tray(x, 0, 0, 1);
        due("one deed", x.perform(0), 1);
        due("is enough", x.count(8), 4);
    }

    /** What each number from -50 to 250 is as a deed: 0 to 2 why not. */
    private static void deedsByNumbers() {
        Check.promise(15, "judge");
        int people = 3;
        for (long v = -50; v <= 250; v++) {
            RaftHold x = raft(HOLDER + "holder bears 1 weight 1 loose;" + HOLDER);
            Check.tray(x, 0, v);
            int why = whyNot(v, people);
            due("why not " + v, x.judge(0, 1), why);
            due("where " + v, x.judge(0, 0), why == 0 ? -1 : 0);
            due("who holds behind " + v, x.judge(0, 2), v == 10 ? 4 : v == 12 ? 1 : v == 21 ? 7 : 5);
            Check.promise(16, "perform");
            due("perform " + v, x.perform(0), why == 0 ? 1 : 0);
            due("undoable " + v, x.count(8), why == 0 ? 1 : 0);
            due("weeks behind " + v, x.count(7), v == 0 ? 1 : 0);
            due("storm behind " + v, x.count(6), v >= 30 && v <= 39 ? v - 30 : 0);
            for (int p = 0; p < people; p++) {
                due("bears behind " + v, x.holder(p, 1), v / 10 == 10 + p ? v % 10 : 1);
            }
            Check.promise(15, "judge");
        }
        for (long v : new long[] {1L << 32, (1L << 32) + 30, (1L << 8) + 30, (1L << 16) + 30, Long.MAX_VALUE, Long.MIN_VALUE, -10, -226}) {
            RaftHold x = raft(HOLDER);
            Check.tray(x, 0, v);
            due("why not " + v, x.judge(0, 1), 1);
            due("perform " + v, x.perform(0), 0);
        }
    }

    private static int whyNot(long v, int people) {
        if (v == 0 || v >= 30 && v <= 39 || v >= 100 && v < 100 + 10 * people) {
            return 0;
        }
        if (v >= 10 && v < 10 + people) {
            return v == 11 ? 2 : 0;
        }
        if (v >= 20 && v < 20 + people) {
            return v == 21 ? 0 : 2;
        }
        return 1;
    }

    private static void firstPlaceThatCant() {
        for (int at = 0; at <= 40; at++) {
            RaftHold x = raft("holder bears 5 weight 5;" + HOLDER + "lets:who=1;");
            x.numbers(2, 2, 40);
            if (at < 40) {
                x.write(2, at, at % 2 == 0 ? 20 : 12);
            }
            Check.promise(15, "judge");
            due("the first place " + at, x.judge(2, 0), at < 40 ? at : -1);
            due("why", x.judge(2, 1), at == 40 ? 0 : at % 2 == 0 ? 2 : 1);
            if (at == 40) {
                due("who holds", x.judge(2, 2), 1);
                due("it sinks", x.judge(2, 3), 0);
            }
            Check.promise(16, "perform");
            due("how many", x.perform(2), at);
            due("weeks", x.count(7), at);
            due("undoable", x.count(8), at > 0 ? 1 : 0);
        }
    }

    private static void emptyAndFullTrays() {
        for (int tray = 0; tray < 4; tray++) {
            RaftHold x = raft("holder bears 2 weight 2;" + HOLDER.repeat(2) + "lets:storm=9;");
            Check.promise(15, "judge");
            for (int what = 0; what < 4; what++) {
                due("missing", x.judge(tray, what), -6);
            }
            Check.promise(16, "perform");
            due("missing", x.perform(tray), -6);
            x.numbers(tray, tray, 0);
            due("no deeds", x.perform(tray), 0);
            due("no call", x.count(8), 0);
            Check.promise(15, "judge");
            due("no deeds", x.judge(tray, 0), -1);
            due("no deeds", x.judge(tray, 1), 0);
            due("no deeds", x.judge(tray, 2), 7);
            due("no deeds", x.judge(tray, 3), 1);
            x.numbers(tray, tray, 40);
            x.write(tray, 38, 39);
            due("forty", x.judge(tray, 0), -1);
            due("forty", x.judge(tray, 2), 0);
            due("forty", x.judge(tray, 3), 0);
            Check.promise(16, "perform");
            due("forty", x.perform(tray), 40);
            due("weeks", x.count(7), 39);
        }
    }

    private static void yearFrom1To40() {
        Check.promise(17, "year");
        for (int times : new int[] {-1, 0, 1, 39, 40, 41}) {
            RaftHold x = raft(HOLDER);
            int could = x.year(5, times);
            due("times " + times, could < 0 ? could : 0, times >= 1 && times <= 40 ? 0 : -3);
            due("undoable", x.count(8), could > 0 ? 1 : 0);
        }
        int none = 0;
        int one = 0;
        for (int seed = -60; seed < 60; seed++) {
            RaftHold x = new RaftHold();
            int draw = (1103515245 * seed + 12345) >>> 16;
            int want = draw % 6 < 2 || draw % 6 == 4 ? 1 : 0;
            due("year without people, seed " + seed, x.year(seed, 1), want);
            due("undoable, seed " + seed, x.count(8), want);
            due("a week, seed " + seed, x.count(7), draw % 6 < 2 ? 1 : 0);
            none += 1 - want;
            one += want;
        }
        Check.holds("years that could do nothing and one", none > 10 && one > 10);
        yearsOfOne();
    }

    /** With two people each kind of deed that can be and that can't, by the first draws of a seed. */
    private static void yearsOfOne() {
        boolean[] can = new boolean[6];
        boolean[] cant = new boolean[6];
        for (int seed = 0; seed < 400; seed++) {
            RaftHold x = raft(HOLDER + "holder bears 1 weight 1 loose;lets:1=1;");
            int first = 1103515245 * seed + 12345;
            int second = 1103515245 * first + 12345;
            int third = 1103515245 * second + 12345;
            int kind = (first >>> 16) % 6;
            int p = (second >>> 16) % 8;
            boolean could = kind < 2 || kind == 2 && p == 0 || kind == 3 && p == 1 || kind == 4 || kind == 5 && p < 2;
            due("year of seed " + seed, x.year(seed, 1), could ? 1 : 0);
            due("who holds", x.count(2), kind < 2 || kind == 2 && could ? 0 : kind == 3 && could ? 3 : 1);
            due("weeks", x.count(7), kind < 2 ? 1 : 0);
            due("storm", x.count(6), kind == 4 ? (second >>> 16) % 10 : 0);
            for (int q = 0; q < 2; q++) {
                due("bears", x.holder(q, 1), kind == 5 && p == q ? (third >>> 16) % 10 : 1);
            }
            can[kind] |= could;
            cant[kind] |= !could;
        }
        for (int kind = 0; kind < 6; kind++) {
            Check.holds("kind " + kind, can[kind] && cant[kind] == (kind == 2 || kind == 3 || kind == 5));
        }
    }

    private static void settlesFrom0To8() {
        Check.promise(18, "settles");
        RaftHold x = Check.raft(CHAIN);
        for (int n = 0; n <= 8; n++) {
            int set = (1 << n) - 1;
            due("weeks of the first " + n, x.settles(set, 1), n);
            due("nobody holds", x.settles(set, 0), 0);
        }
        due("who stays", x.settles(0b10000001, 0), 0b10000001);
        due("who stays", x.settles(0b10000001, 1), 0);
        due("the last alone", x.settles(128, 0), 128);
        due("others", x.settles(256, 0), -3);
        due("nothing is done", x.count(2), 255);
        RaftHold free = raft(HOLDER.repeat(8));
        for (int set = 0; set < 256; set += 15) {
            due("without a law", free.settles(set, 0), set);
            due("without a law", free.settles(set, 1), 0);
        }
        RaftHold stormy = raft(HOLDER.repeat(2) + "lets:storm>0 and bears=1;");
        due("no storm", stormy.settles(3, 1), 0);
        stormy.storm(1);
        due("a storm", stormy.settles(3, 0) + 10 * stormy.settles(3, 1), 10);
        stormy.mend(1, 2);
        due("one mended", stormy.settles(3, 0), 2);
    }

    private static void whenFrom1To8() {
        Check.promise(19, "when");
        RaftHold x = Check.raft(CHAIN);
        for (int p = 0; p < 8; p++) {
            due("week of " + p, x.when(p), 8 - p);
        }
        due("one behind", x.when(8), -2);
        due("one ahead", x.when(-1), -2);
        x.go(0);
        due("it doesn't hold", x.when(0), -1);
        due("it never lets go", x.when(7), -1);
        x.take(0);
        x.weeks(3);
        due("from now on", x.when(4), 1);
        due("it has let go", x.when(5), -1);
        due("no such ahead of none", x.when(9), -2);
    }

    private static void sinksFrom0To8() {
        Check.promise(20, "sinks");
        for (int week = 0; week <= 8; week++) {
            RaftHold x = raft(HOLDER.repeat(8) + "lets : all = who + 1;floats : all > " + (8 - week) + ";");
            due("in week " + week, x.sinks(), week);
            RaftHold only = raft(HOLDER.repeat(8) + "lets : all = who + 1;floats : not all = " + (8 - week) + ";");
            due("in week " + week + " alone", only.sinks(), week);
        }
        due("never", raft(HOLDER.repeat(8) + "lets : all = who + 1;floats : all < 9;").sinks(), -1);
        due("never, as nobody lets go", raft(HOLDER.repeat(8) + "floats : all > 7;").sinks(), -1);
        due("now, nobody holds", raft("holder bears 1 weight 1 loose;").sinks(), 0);
        RaftHold x = raft(HOLDER.repeat(2) + "lets:storm=1;floats:storm<2 and all>0;");
        due("no storm", x.sinks(), -1);
        x.storm(1);
        due("storm 1", x.sinks(), 1);
        x.storm(2);
        due("storm 2", x.sinks(), 0);
    }

    private static void steadySets() {
        Check.promise(21, "steady");
        due("all of eight", raft(HOLDER.repeat(8)).steady(), 256);
        due("nobody alone", raft(HOLDER.repeat(8) + "lets:1=1;").steady(), 1);
        due("all alone and nobody", raft(HOLDER.repeat(8) + "lets:all<8;").steady(), 2);
        due("all but all", raft(HOLDER.repeat(8) + "lets:all=8;").steady(), 255);
        due("of one", raft(HOLDER).steady(), 2);
        due("whoever holds", raft("holder bears 1 weight 1 loose;lets:1=1;").steady(), 1);
        RaftHold x = raft(HOLDER.repeat(2) + "lets:storm=who+1;");
        due("no storm", x.steady(), 4);
        x.storm(2);
        due("storm 2", x.steady(), 2);
    }
}
