/** The bounds that the document names for trays, images and counts (promises 42 to 47), and which of several codes is told. */
public final class TrayEdgesTest {
    private static final String RAFT = "raft quota 1;";
    private static final String HOLDER = "holder bears 1 weight 1;";

    public static void main(String[] args) {
        numbersFrom0To40();
        sortsFrom0To3();
        anotherOneInItsPlace();
        writeFromFirstToLast();
        cutToItsSort();
        signedAsDeedsAndTests();
        listsFrom0To40();
        listsAsWeeks();
        listsCutToItsSort();
        imagesAtFirst();
        imagesAreApart();
        imagesKeepNoUndoing();
        imagesOfAllThatDeedsChange();
        whatAnImageHasNot();
        countsFrom0To10();
        countsOfTheFull();
        ofSeveralTheFirst();
        fiveHundredAndTwelveCalls();
        Check.end();
    }

    private static void due(String call, long got, long want) {
        Check.due(call, got, want);
    }

    private static RaftHold raft(String lines) {
        return Check.raft(RAFT + lines);
    }

    private static void numbersFrom0To40() {
        Check.promise(42, "numbers");
        for (int tray = -1; tray <= 4; tray++) {
            for (int n = -2; n <= 42; n++) {
                RaftHold x = new RaftHold();
                boolean isTray = tray >= 0 && tray <= 3;
                boolean can = n >= 0 && n <= 40;
                due("numbers " + tray + " " + n, x.numbers(tray, 3, n), !isTray ? -2 : can ? 0 : -3);
                if (!isTray) {
                    continue;
                }
                due("first of " + n, x.write(tray, 0, 5), !can ? -6 : n > 0 ? 5 : -7);
                due("last of " + n, x.write(tray, n - 1, 5), !can ? -6 : n > 0 ? 5 : -7);
                due("behind the last of " + n, x.write(tray, n, 5), !can ? -6 : -7);
                due("ahead of the first of " + n, x.write(tray, -1, 5), !can ? -6 : -7);
                due("lists of " + n, x.lists(tray), !can ? -6 : n);
            }
        }
    }

    private static void sortsFrom0To3() {
        Check.promise(42, "numbers");
        for (int sort = -2; sort <= 5; sort++) {
            RaftHold x = new RaftHold();
            boolean can = sort >= 0 && sort <= 3;
            due("sort " + sort, x.numbers(1, sort, 2), can ? 0 : -2);
            due("sort " + sort + " ahead of n", x.numbers(1, sort, -1), can ? -3 : -2);
            due("sort " + sort + " ahead of n", x.numbers(1, sort, 41), can ? -3 : -2);
            due("it is there", x.write(1, 1, 7), can ? 7 : -6);
        }
    }

    private static void anotherOneInItsPlace() {
        Check.promise(42, "numbers");
        RaftHold x = raft(HOLDER);
        x.numbers(0, 3, 40);
        for (int i = 0; i < 40; i++) {
            x.write(0, i, 1);
        }
        due("refused", x.numbers(0, 3, 41) * 10 + x.numbers(0, 4, 1), -32);
        due("it stays", x.judge(0, 0), 0);
        due("its numbers stay", x.write(0, 39, 9), 9);
        due("less", x.numbers(0, 3, 39), 0);
        due("all 0", x.judge(0, 0), -1);
        due("no more of them", x.write(0, 39, 9), -7);
        due("none", x.numbers(0, 0, 0), 0);
        due("not missing", x.perform(0), 0);
        due("more again", x.numbers(0, 2, 40), 0);
        due("all 0", x.perform(0), 40);
        x.numbers(1, 3, 1);
        x.write(1, 0, 1);
        x.numbers(2, 3, 1);
        due("trays are apart", x.judge(1, 0) * 10 + x.judge(2, 0), -1);
        due("the others are missing", x.perform(3), -6);
    }

    private static void writeFromFirstToLast() {
        Check.promise(43, "write");
        for (int n = 1; n <= 40; n++) {
            RaftHold x = raft(HOLDER);
            x.numbers(2, 1, n);
            for (int i = 0; i < n; i++) {
                due("write " + i + " of " + n, x.write(2, i, i + 30), i + 30);
            }
            due("behind", x.write(2, n, 1), -7);
            due("ahead", x.write(2, -1, 1), -7);
            due("as far as storms go", x.perform(2), Math.min(n, 10));
            due("over the first one", x.write(2, 0, 1), 1);
            due("it is there", x.judge(2, 0), 0);
            due("the others stay", n == 1 ? 31 : x.write(2, 1, 31), 31);
        }
        RaftHold x = new RaftHold();
        due("missing ahead of no such number", x.write(0, -1, 0), -6);
        due("no such tray ahead of all", x.write(4, -1, 0), -2);
        due("no such tray ahead of all", x.write(-1, 99, 0), -2);
    }

    private static void cutToItsSort() {
        Check.promise(43, "write");
        for (int sort = 0; sort < 4; sort++) {
            RaftHold x = new RaftHold();
            x.numbers(0, sort, 1);
            int bits = 8 << sort;
            long most = sort == 3 ? Long.MAX_VALUE : (1L << bits - 1) - 1;
            long least = -most - 1;
            due("the greatest of " + bits, x.write(0, 0, most), most);
            due("one less", x.write(0, 0, most - 1), most - 1);
            due("one more", x.write(0, 0, most + 1), least);
            due("the least of " + bits, x.write(0, 0, least), least);
            due("one less", x.write(0, 0, least - 1), most);
            due("0", x.write(0, 0, 0), 0);
            due("-1", x.write(0, 0, -1), -1);
            if (sort < 3) {
                due("all bits", x.write(0, 0, (1L << bits) - 1), -1);
                due("one bit too high", x.write(0, 0, 1L << bits), 0);
                due("and 5", x.write(0, 0, (1L << bits) + 5), 5);
            }
            due("the highest bit", x.write(0, 0, Long.MIN_VALUE), sort == 3 ? Long.MIN_VALUE : 0);
        }
    }

    private static void signedAsDeedsAndTests() {
        Check.promise(43, "write: as it is there");
        RaftHold x = raft(HOLDER.repeat(3));
        x.numbers(0, 0, 1);
        x.write(0, 0, 256 + 109);
        due("109 of 8 bits", x.judge(0, 0), -1);
        x.write(0, 0, 128);
        due("128 of 8 bits is no deed", x.judge(0, 1), 1);
        x.numbers(0, 1, 1);
        x.write(0, 0, 128);
        due("128 of 16 bits is one", x.judge(0, 0), -1);
        x.write(0, 0, 65536 + 128);
        due("cut to 128", x.judge(0, 0), -1);
        x.numbers(0, 2, 1);
        x.write(0, 0, (1L << 32) + 31);
        due("31 of 32 bits", x.perform(0), 1);
        due("storm 1", x.count(6), 1);
        x.numbers(0, 3, 1);
        x.write(0, 0, (1L << 32) + 31);
        due("no deed of 64 bits", x.judge(0, 1), 1);
    }

    private static void listsFrom0To40() {
        Check.promise(44, "lists");
        for (int n = 0; n <= 40; n++) {
            RaftHold x = raft(HOLDER.repeat(2) + "lets:1=1;");
            x.numbers(3, 3, n);
            for (int i = 0; i < n; i++) {
                x.write(3, i, 1);
            }
            due("lists " + n, x.lists(3), n);
            due("all are 0: weeks", x.perform(3), n);
            x.undo(n > 0 ? 1 : 0);
            due("who holds", x.count(2), 3);
        }
        RaftHold x = raft(HOLDER);
        due("missing", x.lists(0), -6);
        due("no such", x.lists(4), -2);
        due("no such", x.lists(-1), -2);
    }

    /** What is listed is looked at as tests: number v tests set v / 2, which floats or not by a law of the storm. */
    private static void listsAsWeeks() {
        Check.promise(44, "lists");
        for (int place = 0; place < 5; place++) {
            RaftHold x = raft(HOLDER.repeat(5) + "lets:all=who+1;floats:storm=all;");
            x.numbers(0, 3, place + 1);
            x.lists(0);
            int fitting = 1023;
            for (int i = 0; i <= place; i++) {
                int listed = (1 << 4 - i) - 1;
                int floating = 1 << Integer.bitCount(listed >> 1);
                fitting &= (listed & 1) == 1 ? floating : ~floating;
            }
            due("listed " + (place + 1), x.storms(0), fitting);
            due("nothing is done", x.count(2), 31);
            due("no weeks", x.count(7), 0);
            due("no call", x.count(8), 0);
        }
        RaftHold x = raft(HOLDER.repeat(5) + "lets:who=4;");
        x.numbers(0, 0, 1);
        x.lists(0);
        due("15: all but the first", x.storms(0), 0);
        x.go(0);
        x.lists(0);
        due("as it is now: 14 tests 7, which sinks", x.storms(0), 1023);
        x.weeks(1);
        x.lists(0);
        due("behind a week the same", x.storms(0), 1023);
    }

    private static void listsCutToItsSort() {
        Check.promise(44, "lists");
        RaftHold x = raft(HOLDER.repeat(8));
        for (int sort = 0; sort < 4; sort++) {
            x.numbers(0, sort, 1);
            due("listed", x.lists(0), 1);
            due("255 by sort " + sort, x.storms(0), sort == 0 ? -3 : 0);
        }
        x.go(7);
        x.numbers(0, 0, 1);
        x.lists(0);
        due("127 in 8 bits", x.storms(0), 0);
    }

    private static void imagesAtFirst() {
        Check.promise(46, "restore");
        RaftHold x = new RaftHold();
        for (int i = -2; i <= 3; i++) {
            due("restore " + i, x.restore(i), i == 0 || i == 1 ? -5 : -2);
        }
        Check.promise(45, "image");
        for (int i = -2; i <= 3; i++) {
            RaftHold y = raft(HOLDER);
            boolean can = i == 0 || i == 1;
            due("image " + i, y.image(i), can ? 0 : -2);
            due("restore 0", y.restore(0), i == 0 ? 0 : -5);
            due("restore 1", y.restore(1), i == 1 ? 0 : -5);
        }
    }

    private static void imagesAreApart() {
        Check.promise(46, "restore");
        RaftHold x = raft(HOLDER + "storm 1;");
        x.image(0);
        Check.tell(x, "raft quota 2;" + HOLDER.repeat(2) + "storm 2;");
        x.image(1);
        Check.tell(x, "raft quota 3;" + HOLDER.repeat(3) + "storm 3;");
        due("quota now", x.count(1), 3);
        for (int round = 0; round < 3; round++) {
            due("restore 0", x.restore(0), 0);
            due("as it was", x.count(0) * 100 + x.count(1) * 10 + x.count(6), 111);
            x.storm(9);
            x.go(0);
            x.mend(0, 9);
            due("restore 1", x.restore(1), 0);
            due("as it was", x.count(0) * 100 + x.count(1) * 10 + x.count(6), 222);
            x.storm(8);
            x.go(1);
            x.mend(1, 8);
        }
        x.image(0);
        x.restore(1);
        x.restore(0);
        due("made anew", x.count(6) * 100 + x.count(2) * 10 + x.holder(1, 1), 818);
    }

    private static void imagesKeepNoUndoing() {
        Check.promise(46, "restore: nothing can be undone");
        RaftHold x = raft(HOLDER.repeat(2));
        x.storm(1);
        x.storm(2);
        due("image", x.image(0), 0);
        due("what can be undone stays by an image", x.count(8), 2);
        x.storm(3);
        due("one more", x.count(8), 3);
        due("restore", x.restore(0), 0);
        due("nothing can be", x.count(8), 0);
        due("nothing can be", x.undo(1), -3);
        x.storm(4);
        due("what comes then can", x.undo(1), 0);
        due("as in the image", x.count(6), 2);
        due("refused", x.restore(1), -5);
        x.storm(5);
        x.restore(1);
        x.restore(2);
        due("a refused one takes nothing", x.count(8), 1);
    }

    private static void imagesOfAllThatDeedsChange() {
        Check.promise(46, "restore: all that is in an image");
        RaftHold x = Check.raft("raft quota 7;holder bears 3 weight 2 votes 4 likes 1 2 3;" + HOLDER + "by 0 1;quarrel 0 1;storm 5;"
            + "lets:who=1 and storm=5;floats:bears>storm;");
        x.mend(0, 6);
        x.go(1);
        x.weeks(4);
        x.storm(2);
        x.image(1);
        Check.tell(x, RAFT);
        due("another one", x.count(0), 0);
        x.restore(1);
        int[] counts = {2, 7, 1, 6, 3, 1, 2, 4, 0, 0, 8};
        for (int what = 0; what < counts.length; what++) {
            due("count " + what, x.count(what), counts[what]);
        }
        int[] whats = {0, 1, 2, 3, 4, 5, 10, 11, 12};
        int[] first = {1, 6, 2, 4, 2, 2, 1, 2, 3};
        for (int i = 0; i < whats.length; i++) {
            due("holder 0 " + whats[i], x.holder(0, whats[i]), first[i]);
        }
        x.take(1);
        due("its law of weeks", x.lets(1), 0);
        x.storm(5);
        due("its law of weeks", x.lets(1), 1);
        due("its law of floating", x.floats(3), 1);
        due("its law of floating", x.floats(2), 0);
    }

    private static void whatAnImageHasNot() {
        Check.promise(46, "restore: tape, trays, fault");
        RaftHold x = raft(HOLDER);
        x.image(0);
        Check.tell(x, "raft quota 0;");
        Check.feed(x, "raft quota 9;");
        Check.tray(x, 3, 0, 1);
        x.restore(0);
        due("the fault", x.fault(0), 3);
        due("its place", x.fault(1), 11);
        due("the tape", x.count(9), 20);
        due("the tray", x.judge(3, 0), 1);
        due("what was fed", x.raft(13), 1);
        due("its quota", x.count(1), 9);
    }

    private static void countsFrom0To10() {
        Check.promise(47, "count");
        RaftHold x = raft(HOLDER);
        for (int what = -3; what <= 13; what++) {
            due("count " + what, x.count(what) == -1 ? 0 : 1, what >= 0 && what <= 10 ? 1 : 0);
        }
        for (int what : new int[] {-1, 11, Integer.MIN_VALUE, Integer.MAX_VALUE}) {
            due("none of others", x.count(what), RaftHold.NONE);
        }
        Check.promise(4, "fault");
        for (int what : new int[] {-2, -1, 2, 3, Integer.MIN_VALUE, Integer.MAX_VALUE}) {
            due("none of others", x.fault(what), RaftHold.NONE);
        }
        due("no fault", x.fault(0), 0);
        due("no place", x.fault(1), RaftHold.NONE);
        Check.tell(x, "storm 1;");
        due("a fault at the first sign", x.fault(0) * 10 + x.fault(1), 20);
        x.raft(1);
        due("what wasn't read has none", x.fault(0) * 10 + x.fault(1), 20);
        Check.tell(x, RAFT);
        due("the latest", x.fault(0) * 10 + x.fault(1), -1);
    }

    private static void countsOfTheFull() {
        Check.promise(47, "count");
        RaftHold x = Check.raft("raft quota 99;" + "holder bears 9 weight 9 votes 9;".repeat(8) + "storm 9;" + "storm 9;".repeat(70));
        int[] want = {8, 99, 255, 72, 72, 1, 9, 0, 0, 0, 80};
        for (int what = 0; what < want.length; what++) {
            due("count " + what, x.count(what), want[what]);
        }
        for (int i = 0; i < 12; i++) {
            x.weeks(99);
        }
        due("weeks", x.count(7), 1188);
        due("calls", x.count(8), 10);
        Check.feed(x, " ".repeat(900));
        due("bytes", x.count(9), 900);
        x.go(3);
        due("who holds", x.count(2), 247);
        due("they bear", x.count(3), 63);
        due("all weights", x.count(4), 72);
        due("it sinks", x.count(5), 0);
    }

    /** Each pair of codes that one call may answer by: that which the call tells first. */
    private static void ofSeveralTheFirst() {
        Check.promise(47, "of several codes the first");
        RaftHold x = raft("holder bears 0 weight 1;holder bears 0 weight 1 loose;");
        due("judge: what, missing", x.judge(0, 4), -2);
        due("judge: tray, what", x.judge(4, 4), -2);
        due("settles: what, set", x.settles(4, 2), -2);
        due("cut: what, not holding", x.cut(0, 1, 2), -2);
        due("cut: both one, not holding", x.cut(1, 1, 0), -2);
        due("cut: people, what", x.cut(0, 2, 2), -2);
        due("spark: what, none", x.spark(2), -2);
        due("least: what, none", x.least(2), -2);
        due("starts: kind, what", x.starts(2, 2), -2);
        due("bearings: one, missing", x.bearings(0, 2), -2);
        due("attempt: one, missing", x.attempt(0, 2), -2);
        due("storms: tray", x.storms(4), -2);
        x.numbers(0, 3, 9);
        x.write(0, 0, -1);
        due("bearings: one, too many", x.bearings(0, 2), -2);
        due("bearings: too many, no set", x.bearings(0, 0), -4);
        due("storms: too many, no set", x.storms(0), -4);
        due("attempt: too many, no set", x.attempt(0, 0), -4);
        x.numbers(0, 3, 2);
        x.write(0, 0, 1);
        x.write(0, 1, 8);
        due("attempt: no set, none", x.attempt(0, 0), -3);
        due("bearings: one, no set", x.bearings(0, -1), -2);
        due("sides: set, sinks", x.sides(4), -3);
        due("best: set, sinks", x.best(4), -3);
        due("best: sinks, none", x.best(2), -5);
        due("chance: what, n", x.chance(9, 2), -2);
        due("mean: what, n", x.mean(9, 2), -2);
        due("numbers: tray, n", x.numbers(4, 0, 41), -2);
        due("numbers: sort, n", x.numbers(0, 4, 41), -2);
        due("write: tray, number", x.write(4, -1, 0), -2);
        due("write: missing, number", x.write(1, -1, 0), -6);
        due("restore: image, made", x.restore(2), -2);
        due("go: why not 1 ahead of 2", x.go(2), -11);
        due("take: why not 1 ahead of 2", x.take(2), -11);
        due("go: why not 2", x.go(1), -12);
        due("take: why not 2", x.take(0), -12);
        due("holder: people, what", x.holder(2, 6), -2);
        due("when: people, none", x.when(2), -2);
        due("winning: what, none", x.winning(2), -2);
        due("island: what, none", x.island(2), -2);
    }

    /** An object answers up to its last call, whether it reads texts or does deeds all the while. */
    private static void fiveHundredAndTwelveCalls() {
        Check.promise(47, "the 512th call");
        RaftHold deeds = new RaftHold();
        for (int call = 1; call < 512; call++) {
            due("storm", deeds.storm(call % 10), (call - 1) % 10);
        }
        due("the 512th", deeds.count(6), 1);
        RaftHold texts = new RaftHold();
        for (int call = 1; call < 511; call += 3) {
            Check.feed(texts, "raft quota " + (1 + call % 99) + ";");
            due("raft", texts.raft(20), 1);
            due("quota", texts.count(1), 1 + call % 99);
        }
        due("the 511th", texts.storm(4), 0);
        due("the 512th", texts.undo(1), 0);
    }
}
