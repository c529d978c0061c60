/** The bounds that the document names for the fewest, votes, places, tests, turns and chances: promises 22 to 41. */
public final class QuestionEdgesTest {
    private static final String RAFT = "raft quota 1;";
    private static final String HOLDER = "holder bears 1 weight 1;";
    private static final String ZERO = "holder bears 0 weight 0;";

    public static void main(String[] args) {
        startsWithNobodyAndAll();
        startsOfLikeOnes();
        startsWhenItSinks();
        sparkOfOne();
        cutByNobodyAndAll();
        leastOfNobodyAndAll();
        neededOfNobodyAndAll();
        powerOfNobodyAndAll();
        dummiesAndSwings();
        winningByAsMany();
        beatsByVotes();
        islands();
        goingRound();
        placingOfLikeOnes();
        quarrelsNow();
        oneToEightTests();
        testsOfAllSets();
        bearingsFrom0To9();
        stormsFrom0To9();
        attemptOfLikeOnes();
        attemptOfNobodyAndAll();
        sidesOfNobodyAndAll();
        sidesWhenItSinks();
        bestOfLikeOnes();
        chanceFrom0To8();
        chanceOfNobody();
        meanFrom0To8();
        asItIsNow();
        Check.end();
    }

    private static void due(String call, long got, long want) {
        Check.due(call, got, want);
    }

    private static RaftHold raft(String lines) {
        return Check.raft(RAFT + lines);
    }

    private static void both(String call, long first, long second, long wantFirst, long wantSecond) {
        due(call + ", what 0", first, wantFirst);
        due(call + ", what 1", second, wantSecond);
    }

    private static void starts(String why, RaftHold x, int kind, int many, int who) {
        both("starts " + kind + ": " + why, x.starts(kind, 0), x.starts(kind, 1), many, who);
    }

    private static void startsWithNobodyAndAll() {
        Check.promise(22, "starts");
        for (int n = 1; n <= 8; n++) {
            RaftHold x = raft(ZERO.repeat(n) + "floats:all>0;");
            starts("all of " + n, x, 0, n, (1 << n) - 1);
            starts("all of " + n, x, 1, n, (1 << n) - 1);
            RaftHold never = raft(ZERO.repeat(n));
            starts("by no set of " + n, never, 0, -1, -1);
            starts("all of " + n, never, 1, n, (1 << n) - 1);
            RaftHold sunk = raft("holder bears 0 weight 1;".repeat(n));
            starts("it sinks so", sunk, 0, 0, 0);
            RaftHold gone = raft(HOLDER.repeat(n) + "lets:1=1;");
            starts("it sinks anyhow", gone, 0, 0, 0);
            starts("nobody holds anyhow", gone, 1, 0, 0);
        }
        RaftHold loose = raft("holder bears 1 weight 0 loose;".repeat(2));
        starts("nobody holds now", loose, 0, -1, -1);
        starts("nobody holds now", loose, 1, 0, 0);
        RaftHold some = raft(HOLDER + "holder bears 1 weight 0 loose;" + HOLDER + "lets:all=1;");
        starts("of those who hold", some, 1, 1, 1);
        due("nothing is done", some.count(2), 5);
    }

    private static void startsOfLikeOnes() {
        Check.promise(22, "starts");
        RaftHold x = raft(ZERO.repeat(8) + "floats:all>5;");
        starts("the least three", x, 0, 3, 7);
        x.go(1);
        starts("the least two of those who hold", x, 0, 2, 5);
        x.go(0);
        starts("the least one", x, 0, 1, 4);
        x.go(2);
        starts("it sinks so", x, 0, 0, 0);
        RaftHold high = raft("holder bears 0 weight 1;".repeat(2) + "holder bears 6 weight 0;".repeat(3) + "floats:bears>11;");
        starts("two high ones, not three low ones", high, 0, 2, 12);
        RaftHold fewer = raft("holder bears 1 weight 0;".repeat(3) + "holder bears 9 weight 0;floats:bears>8;");
        starts("one greater number, not more of less", fewer, 0, 1, 8);
    }

    private static void startsWhenItSinks() {
        Check.promise(22, "starts");
        String chain = ZERO.repeat(4) + "by 0 1;by 1 2;by 2 3;lets:gone>0;";
        starts("at once", raft(chain + "floats:not all=3;"), 0, 1, 1);
        starts("in a week", raft(chain + "floats:not all=2;"), 0, 1, 1);
        starts("in a week, by the second", raft(chain + "floats:not all=1;"), 0, 1, 1);
        starts("when it has settled", raft(chain + "floats:all>0;"), 0, 1, 1);
        starts("when it hasn't settled yet", raft(ZERO.repeat(3) + "lets:all=2;floats:not all=2;"), 0, 1, 1);
        starts("it floats when it has settled", raft(ZERO.repeat(3) + "lets:all=2;floats:not all=1;"), 0, 2, 3);
        starts("by the law of weeks", raft(ZERO.repeat(3) + "lets:all=2;"), 1, 1, 1);
    }

    private static void sparkOfOne() {
        Check.promise(23, "spark");
        for (int n = 1; n <= 8; n++) {
            RaftHold x = raft(HOLDER.repeat(n));
            both("the first of " + n, x.spark(0), x.spark(1), 0, n - 1);
        }
        RaftHold x = raft(HOLDER.repeat(8) + "by 7 6;by 7 5;by 7 4;lets:gone>0 and who<7;");
        both("the last", x.spark(0), x.spark(1), 7, 4);
        x.go(7);
        both("it doesn't hold any more", x.spark(0), x.spark(1), 0, 3);
        RaftHold nobody = raft("holder bears 1 weight 1 loose;");
        both("nobody holds", nobody.spark(0), nobody.spark(1), -1, -1);
        RaftHold one = raft("holder bears 1 weight 1 loose;" + HOLDER);
        both("one holds", one.spark(0), one.spark(1), 1, 0);
        due("what ahead of none", nobody.spark(2), -2);
    }

    private static void cutByNobodyAndAll() {
        Check.promise(24, "cut");
        for (int n = 3; n <= 8; n++) {
            StringBuilder fan = new StringBuilder(HOLDER.repeat(n));
            for (int p = 1; p < n - 1; p++) {
                fan.append("by 0 ").append(p).append(";by ").append(p).append(' ').append(n - 1).append(';');
            }
            RaftHold x = raft(fan.toString());
            int others = (1 << n - 1) - 2;
            both("all others of " + n, x.cut(0, n - 1, 0), x.cut(0, n - 1, 1), n - 2, others);
            both("turned round", x.cut(n - 1, 0, 0), x.cut(n - 1, 0, 1), n - 2, others);
            both("beside each other", x.cut(0, 1, 0), x.cut(1, 0, 1), -1, -1);
            for (int p = 1; p < n - 1; p++) {
                x.go(p);
            }
            both("apart", x.cut(0, n - 1, 0), x.cut(0, n - 1, 1), 0, 0);
        }
        RaftHold two = raft(HOLDER.repeat(2));
        both("two apart", two.cut(0, 1, 0), two.cut(1, 0, 1), 0, 0);
        due("both one", two.cut(1, 1, 0), -2);
        due("one behind", two.cut(0, 2, 0), -2);
        due("one behind", two.cut(2, 0, 0), -2);
        two.go(0);
        due("one doesn't hold", two.cut(0, 1, 0), -5);
        due("one doesn't hold", two.cut(1, 0, 1), -5);
        due("what ahead", two.cut(0, 1, 2), -2);
        RaftHold row = raft(HOLDER.repeat(5) + "by 0 1;by 1 2;by 2 3;by 3 4;lets:gone>0;");
        both("of like ones the least", row.cut(0, 4, 0), row.cut(4, 0, 1), 1, 2);
        both("no settling", row.cut(1, 4, 0), row.cut(1, 4, 1), 1, 4);
        RaftHold loop = raft(HOLDER.repeat(6) + "by 0 4;by 4 3;by 3 5;by 0 1;by 1 2;by 2 5;");
        both("two of a loop", loop.cut(0, 5, 0), loop.cut(0, 5, 1), 2, 10);
    }

    private static void leastOfNobodyAndAll() {
        Check.promise(25, "least");
        for (int n = 1; n <= 8; n++) {
            RaftHold all = raft(HOLDER.repeat(n));
            both("all of " + n, all.least(0), all.least(1), n, (1 << n) - 1);
            RaftHold none = raft(ZERO.repeat(n));
            both("nobody of " + n, none.least(0), none.least(1), 0, 0);
            RaftHold never = raft(HOLDER.repeat(n) + "storm 1;floats:bears>all;");
            both("it sinks by each of " + n, never.least(0), never.least(1), -1, -1);
            RaftHold one = raft("holder bears 0 weight 0;".repeat(n - 1) + "holder bears 9 weight 9;");
            both("the last of " + n, one.least(0), one.least(1), 1, 1 << n - 1);
        }
        RaftHold loose = raft("holder bears 1 weight 1 loose;".repeat(3) + "floats:all=2;");
        both("of all people, the least", loose.least(0), loose.least(1), 2, 3);
    }

    private static void neededOfNobodyAndAll() {
        Check.promise(26, "needed");
        for (int n = 1; n <= 8; n++) {
            int all = (1 << n) - 1;
            due("all", raft(HOLDER.repeat(n)).needed(), all);
            due("nobody", raft(ZERO.repeat(n)).needed(), 0);
            due("it sinks now", raft("holder bears 0 weight 1;".repeat(n)).needed(), 0);
            due("one alone", raft(ZERO.repeat(n - 1) + HOLDER).needed(), 1 << n - 1);
        }
        RaftHold x = raft("holder bears 1 weight 0;holder bears 1 weight 1 loose;");
        due("of those who hold", x.needed(), 1);
        x.take(1);
        due("two are one too many", x.needed(), 0);
        due("nobody holds and it floats", raft("holder bears 1 weight 0 loose;").needed(), 0);
        RaftHold settling = raft(ZERO.repeat(2) + "lets:all=1;floats:all>0;");
        due("at once, not when it settles", settling.needed(), 0);
    }

    private static String voters(int quota, int... votes) {
        StringBuilder s = new StringBuilder("raft quota ").append(quota).append(";");
        for (int v : votes) {
            s.append("holder bears 1 weight 1 votes ").append(v).append(";");
        }
        return s.toString();
    }

    private static void power(String why, RaftHold x, int p, int above, int below) {
        both("power of " + p + ": " + why, x.power(p, 0), x.power(p, 1), above, below);
    }

    private static void powerOfNobodyAndAll() {
        Check.promise(27, "power");
        for (int n = 1; n <= 8; n++) {
            int[] ones = new int[n];
            java.util.Arrays.fill(ones, 1);
            for (int quota = 1; quota <= n + 1; quota++) {
                RaftHold x = Check.raft(voters(quota, ones));
                power("each of " + n + " by quota " + quota, x, 0, quota <= n ? 1 : 0, quota <= n ? n : 1);
                power("each of " + n + " by quota " + quota, x, n - 1, quota <= n ? 1 : 0, quota <= n ? n : 1);
                due("one behind", x.power(n, 0), -2);
            }
        }
        RaftHold most = Check.raft(voters(72, 9, 9, 9, 9, 9, 9, 9, 9));
        power("as many as the quota", most, 7, 1, 8);
        power("one less", Check.raft(voters(73, 9, 9, 9, 9, 9, 9, 9, 9)), 7, 0, 1);
        power("quota 99", Check.raft(voters(99, 9, 9, 9, 9, 9, 9, 9, 9)), 0, 0, 1);
        RaftHold one = Check.raft(voters(5, 5, 4, 0));
        power("alone as many as the quota", one, 0, 1, 1);
        power("less", one, 1, 0, 1);
        power("no votes", one, 2, 0, 1);
        RaftHold two = Check.raft(voters(6, 5, 4, 1));
        power("by both others", two, 0, 2, 3);
        power("by the first alone", two, 2, 1, 6);
        power("nobody has votes", Check.raft(voters(1, 0, 0)), 0, 0, 1);
        two.go(0);
        power("whoever holds", two, 0, 2, 3);
    }

    private static void dummiesAndSwings() {
        Check.promise(28, "dummies");
        due("all, as all are less", Check.raft(voters(9, 4, 4)).dummies(), 3);
        due("nobody, as all are as many", Check.raft(voters(8, 4, 4)).dummies(), 0);
        due("those of no votes", Check.raft(voters(1, 0, 1, 0)).dummies(), 5);
        due("one of votes too", Check.raft(voters(5, 5, 4, 0)).dummies(), 6);
        due("all eight", Check.raft(voters(99, 9, 9, 9, 9, 9, 9, 9, 9)).dummies(), 255);
        Check.promise(29, "swings");
        for (int n = 1; n <= 8; n++) {
            int[] ones = new int[n];
            java.util.Arrays.fill(ones, 1);
            due("all others", Check.raft(voters(n, ones)).swings(n - 1), 1);
            due("none, nobody", Check.raft(voters(n + 1, ones)).swings(0), 0);
            due("nobody of others", Check.raft(voters(1, ones)).swings(0), 1);
        }
        RaftHold x = Check.raft(voters(5, 3, 2, 4));
        due("others less, with its own as many", x.swings(0), 2);
        due("others less, with its own more or as many", x.swings(2), 2);
        due("one behind", x.swings(3), -2);
        due("others as many already", Check.raft(voters(2, 9, 2)).swings(0), 1);
        due("others one less", Check.raft(voters(3, 9, 2)).swings(0), 2);
        due("with its own one less", Check.raft(voters(5, 2, 2)).swings(0), 0);
        due("with its own as many", Check.raft(voters(4, 2, 2)).swings(0), 1);
        due("no votes", Check.raft(voters(1, 0, 1)).swings(0), 0);
    }

    private static void winningByAsMany() {
        Check.promise(30, "winning");
        for (int n = 1; n <= 8; n++) {
            int[] ones = new int[n];
            java.util.Arrays.fill(ones, 1);
            RaftHold all = Check.raft(voters(n, ones));
            both("all of " + n, all.winning(0), all.winning(1), 1, n);
            RaftHold each = Check.raft(voters(1, ones));
            both("each of " + n, each.winning(0), each.winning(1), n, 1);
            RaftHold none = Check.raft(voters(n + 1, ones));
            both("none of " + n, none.winning(0), none.winning(1), 0, -1);
        }
        RaftHold half = Check.raft(voters(4, 1, 1, 1, 1, 1, 1, 1, 1));
        both("four of eight", half.winning(0), half.winning(1), 70, 4);
        RaftHold free = Check.raft(voters(2, 2, 0, 1, 1));
        both("not if any one can go", free.winning(0), free.winning(1), 2, 1);
    }

    private static RaftHold likers(String... likes) {
        StringBuilder s = new StringBuilder(RAFT);
        for (String l : likes) {
            s.append("holder bears 1 weight 1 ").append(l).append(";");
        }
        return Check.raft(s.toString());
    }

    private static void beatsByVotes() {
        Check.promise(31, "beats");
        RaftHold x = likers("votes 2 likes 1 0 0", "votes 2 likes 0 1 0", "votes 9 likes 5 5 0");
        due("as many votes", x.beats(0, 1), 0);
        due("as many votes", x.beats(1, 0), 0);
        due("more", x.beats(0, 2), 1);
        due("less", x.beats(2, 0), -1);
        for (int i = 0; i < 3; i++) {
            due("with itself", x.beats(i, i), 0);
            due("one behind", x.beats(i, 3), -2);
            due("one ahead", x.beats(-1, i), -2);
        }
        due("one vote more", likers("votes 3 likes 1 0 0", "votes 2 likes 0 9 0").beats(0, 1), 1);
        due("one vote less", likers("votes 2 likes 9 0 0", "votes 3 likes 0 1 0").beats(0, 1), -1);
        due("votes, not how many", likers("votes 3 likes 1 0 0", "likes 0 1 0", "likes 0 1 0").beats(0, 1), 1);
        due("no votes", likers("votes 0 likes 9 0 0").beats(0, 1), 0);
        due("one more is liked more", likers("likes 8 9 0").beats(1, 0), 1);
    }

    private static void islands() {
        Check.promise(32, "island");
        int[][] likes = {{1, 0, 0}, {0, 1, 0}, {0, 0, 1}, {0, 0, 0}, {1, 1, 0}, {1, 0, 1}, {0, 1, 1}, {2, 1, 0}, {0, 1, 2}, {1, 2, 0}};
        int[] want = {0, 1, 2, -1, -1, -1, -1, 0, 2, 1};
        for (int i = 0; i < likes.length; i++) {
            RaftHold x = likers("likes " + likes[i][0] + " " + likes[i][1] + " " + likes[i][2]);
            both("likes " + i, x.island(0), x.island(1), want[i], 0);
        }
        RaftHold apart = likers("votes 9", "votes 0 likes 5 0 0");
        both("what one without votes likes", apart.island(0), apart.island(1), -1, 0);
        due("what ahead of none", new RaftHold().island(2), -2);
        due("what ahead of none", new RaftHold().island(-1), -2);
    }

    private static void goingRound() {
        Check.promise(32, "island");
        String[] up = {"likes 3 2 1", "likes 1 3 2", "likes 2 1 3"};
        String[] down = {"likes 1 2 3", "likes 2 3 1", "likes 3 1 2"};
        for (String[] ring : new String[][] {up, down}) {
            RaftHold x = likers(ring);
            both("they go round", x.island(0), x.island(1), -1, 1);
            for (int i = 0; i < 3; i++) {
                String[] broken = ring.clone();
                broken[i] = "likes 0 0 0";
                RaftHold y = likers(broken);
                due("without one of them", y.island(1), 0);
                String[] turned = ring.clone();
                turned[i] = ring == up ? down[i] : up[i];
                due("one of them the other way", likers(turned).island(1), 0);
            }
        }
        for (String[] ring : new String[][] {up, down}) {
            for (int i = 0; i < 3; i++) {
                for (int votes = 0; votes < 3; votes++) {
                    ringWithOneMore(ring, i, votes);
                }
            }
        }
    }

    /** One more vote for an island makes neither of the link by which it was beaten, two turn it round. */
    private static void ringWithOneMore(String[] ring, int island, int votes) {
        int[] likes = new int[3];
        likes[island] = 1;
        String more = "votes " + votes + " likes " + likes[0] + " " + likes[1] + " " + likes[2];
        RaftHold x = likers(ring[0], ring[1], ring[2], more);
        due("they go round with " + votes + " more for " + island, x.island(1), votes == 0 ? 1 : 0);
        due("who beats both with " + votes + " more for " + island, x.island(0), votes == 2 ? island : -1);
    }

    private static void placing(String why, RaftHold x, int fewest, int... places) {
        due("placing 0: " + why, x.placing(0), fewest);
        for (int p = 0; p < places.length; p++) {
            due("placing of " + p + ": " + why, x.placing(10 + p), places[p]);
        }
        due("one behind: " + why, x.placing(10 + places.length), -2);
        due("one ahead: " + why, x.placing(9), -2);
    }

    private static void placingOfLikeOnes() {
        Check.promise(33, "placing");
        placing("nobody", new RaftHold(), 0);
        placing("one", raft(HOLDER), 0, 0);
        placing("nobody quarrels", raft(HOLDER.repeat(8) + "by 0 1;by 1 2;"), 0, 0, 1, 2, 3, 4, 5, 6, 7);
        placing("two beside each other", raft(HOLDER.repeat(2) + "by 0 1;quarrel 0 1;"), 1, 0, 1);
        placing("as they are is good", raft(HOLDER.repeat(3) + "by 0 1;quarrel 0 2;"), 0, 0, 1, 2);
        placing("the last two change", raft(HOLDER.repeat(3) + "by 0 1;by 0 2;quarrel 0 1;"), 0, 1, 2, 0);
        placing("a ring", raft(HOLDER.repeat(3) + "by 0 1;by 1 2;by 0 2;quarrel 0 1;quarrel 1 2;"), 2, 0, 1, 2);
        StringBuilder all = new StringBuilder(HOLDER.repeat(8));
        for (int p = 0; p < 8; p++) {
            for (int q = 0; q < p; q++) {
                all.append("by ").append(p).append(' ').append(q).append(';');
            }
        }
        placing("all beside all", raft(all + "quarrel 0 7;quarrel 3 4;"), 2, 0, 1, 2, 3, 4, 5, 6, 7);
        RaftHold x = raft(HOLDER.repeat(3) + "by 0 1;quarrel 0 1;");
        placing("the first order", x, 0, 0, 2, 1);
        x.go(0);
        x.go(1);
        placing("whoever holds", x, 0, 0, 2, 1);
        due("nothing is done", x.holder(1, 4), 1);
    }

    private static void quarrelsNow() {
        Check.promise(34, "quarrels");
        due("nobody", new RaftHold().quarrels(), 0);
        due("one", raft(HOLDER).quarrels(), 0);
        due("two", raft(HOLDER.repeat(2) + "by 0 1;quarrel 1 0;").quarrels(), 1);
        StringBuilder all = new StringBuilder();
        for (int p = 0; p < 7; p++) {
            for (int q = 0; q < p; q++) {
                all.append("by ").append(p).append(' ').append(q).append(";quarrel ").append(p).append(' ').append(q).append(';');
            }
        }
        due("all of seven", raft(HOLDER.repeat(7) + all).quarrels(), 21);
    }

    private static void oneToEightTests() {
        for (int n = 0; n <= 40; n++) {
            RaftHold x = raft(HOLDER.repeat(2));
            x.numbers(0, 3, n);
            boolean can = n >= 1 && n <= 8;
            Check.promise(35, "bearings");
            due(n + " tests", x.bearings(0, 1), can ? 1023 : -4);
            Check.promise(36, "storms");
            due(n + " tests", x.storms(0), can ? 1023 : -4);
            Check.promise(37, "attempt");
            due(n + " tests", x.attempt(0, 1), can ? 2 : -4);
            if (n > 0) {
                x.write(0, n - 1, 8);
                due("the last of " + n + " is no set", x.attempt(0, 1), can ? -3 : -4);
                due("the last of " + n + " is no set", x.storms(0), can ? -3 : -4);
                due("the last of " + n + " is no set", x.bearings(0, 1), can ? -3 : -4);
                x.write(0, n - 1, 7);
                due("the last of " + n + " counts", x.storms(0), can ? 1023 : -4);
                x.write(0, n - 1, 6);
                due("the last of " + n + " counts", x.storms(0), can ? 0 : -4);
            }
        }
    }

    /** Which numbers are a set and 0 or 1: from 0 to twice the set of all and 1. */
    private static void testsOfAllSets() {
        Check.promise(35, "tests of sets");
        for (int n = 0; n <= 8; n++) {
            RaftHold x = raft(HOLDER.repeat(n));
            long most = 2L * ((1 << n) - 1) + 1;
            long[] tries = {Long.MIN_VALUE, -2, -1, 0, 1, most - 1, most, most + 1, most + 2, 1L << 31, 1L << 32, 1L << 62, Long.MAX_VALUE};
            x.numbers(1, 3, 1);
            for (long v : tries) {
                x.write(1, 0, v);
                boolean can = v >= 0 && v <= most;
                due("storms by " + v + " of " + n, Math.min(0, x.storms(1)), can ? 0 : -3);
                due("bearings by " + v + " of " + n, Math.min(0, x.bearings(1, n - 1)), n == 0 ? -2 : can ? 0 : -3);
                due("attempt by " + v + " of " + n, Math.min(-1, x.attempt(1, n - 1)), n == 0 ? -2 : can ? -1 : -3);
            }
        }
        RaftHold x = raft(HOLDER.repeat(8));
        x.numbers(2, 0, 1);
        x.write(2, 0, 511);
        due("511 cut to 8 bits is -1", x.storms(2), -3);
        x.numbers(2, 1, 1);
        x.write(2, 0, 511);
        due("511 in 16 bits", x.storms(2), 1023);
        x.write(2, 0, 65536 + 511);
        due("cut to 511", x.storms(2), 1023);
    }

    private static void bearingsFrom0To9() {
        Check.promise(35, "bearings");
        for (int weight = 0; weight <= 9; weight++) {
            RaftHold x = raft("holder bears 5 weight " + weight + ";" + ZERO);
            Check.tray(x, 0, 2 * 1 + 1);
            due("from " + weight + " on", x.bearings(0, 0), 1023 & -(1 << weight));
            due("of one who isn't in it", x.bearings(0, 1), weight <= 5 ? 1023 : 0);
            Check.tray(x, 0, 2 * 1);
            due("below " + weight, x.bearings(0, 0), (1 << weight) - 1);
            due("of one who isn't in it", x.bearings(0, 1), weight <= 5 ? 0 : 1023);
            due("it bears as it did", x.holder(0, 1), 5);
        }
        RaftHold x = raft("holder bears 5 weight 9 loose;floats:bears=0 or bears=9;");
        Check.tray(x, 0, 2 * 1 + 1, 2 * 0 + 1);
        due("0 and 9", x.bearings(0, 0), 1 | 1 << 9);
        Check.tray(x, 0, 2 * 1 + 1, 2 * 1);
        due("none", x.bearings(0, 0), 0);
    }

    private static void stormsFrom0To9() {
        Check.promise(36, "storms");
        for (int n = 0; n <= 9; n++) {
            RaftHold x = raft("storm 5;" + HOLDER + "floats:storm<" + n + ";");
            Check.tray(x, 0, 2 * 1 + 1);
            due("below " + n, x.storms(0), (1 << n) - 1);
            Check.tray(x, 0, 2 * 0);
            due("from " + n + " on", x.storms(0), 1023 & -(1 << n));
            Check.tray(x, 0, 2 * 0, 2 * 1 + 1);
            due("none", x.storms(0), 0);
            due("the storm is as it was", x.count(6), 5);
        }
    }

    private static void attemptOfLikeOnes() {
        Check.promise(37, "attempt");
        RaftHold x = raft("holder bears 5 weight 5;holder bears 1 weight 0;" + "holder bears 2 weight 0;");
        Check.tray(x, 0, 0);
        due("5 and 5 by the first alone", x.attempt(0, 0), 1);
        x.mend(1, 0);
        due("still the first", x.attempt(0, 0), 1);
        RaftHold y = raft("holder bears 4 weight 4;holder bears 1 weight 0;holder bears 9 weight 0;");
        Check.tray(y, 0, 0);
        due("6 and 4 by the first, no better by more", y.attempt(0, 0), 1);
        y.mend(1, 0);
        RaftHold z = raft("holder bears 6 weight 6;holder bears 1 weight 0;holder bears 1 weight 0;");
        Check.tray(z, 0, 0);
        due("5 and 5 with one more, the first of two", z.attempt(0, 0), 3);
        Check.tray(z, 0, 0, 2 * 1 + 1);
        due("6 to 9: as good by each, nobody first", z.attempt(0, 0), 0);
        Check.tray(z, 0, 0, 2 * 1, 2 * 3 + 1);
        due("5 alone", z.bearings(0, 0), 32);
        due("one is known", z.attempt(0, 0), 0);
        Check.tray(z, 0, 2 * 1, 2 * 1 + 1);
        due("there are none", z.attempt(0, 0), -1);
    }

    private static void attemptOfNobodyAndAll() {
        Check.promise(37, "attempt");
        RaftHold all = raft(ZERO.repeat(3) + "floats:all<3 or bears>4;");
        Check.tray(all, 0, 1);
        due("all eight", all.attempt(0, 0), 7);
        RaftHold only = raft("holder bears 0 weight 0;" + ZERO + "floats:[all=1 and bears>8] or [all=2 and bears>0];");
        Check.tray(only, 0, 0);
        due("9 and 1 by each, the first", only.attempt(0, 0), 1);
        Check.tray(only, 0, 2 * 1);
        due("8 and 1 by all alone", only.attempt(0, 0), 3);
        RaftHold zero = raft("holder bears 7 weight 1;holder bears 1 weight 0;");
        Check.tray(zero, 0, 2 * 2 + 1);
        due("0 to 9", zero.bearings(0, 0), 1023);
        due("0 among them", zero.attempt(0, 0), 1);
        Check.tray(zero, 0, 2 * 1);
        due("0 alone", zero.bearings(0, 0), 1);
        due("0 alone", zero.attempt(0, 0), 0);
        RaftHold less = raft(ZERO + "holder bears 1 weight 0;floats:bears<6;");
        Check.tray(less, 0, 1);
        due("6 and 4 by the first, 5 and 5 by both, 0 among them", less.attempt(0, 0), 3);
        RaftHold nobody = raft("holder bears 0 weight 0;floats:all=0 or bears>3;");
        Check.tray(nobody, 0, 1);
        due("nobody floats by each: no better than one", nobody.attempt(0, 0), 1);
    }

    private static void sidesOfNobodyAndAll() {
        Check.promise(38, "sides");
        for (int n = 1; n <= 8; n++) {
            int all = (1 << n) - 1;
            RaftHold free = raft(ZERO.repeat(n));
            RaftHold one = raft(ZERO.repeat(n) + "floats:all=" + n + ";");
            RaftHold last = raft(ZERO.repeat(n) + "floats:all>0;");
            for (int set : new int[] {0, 1, all - 1, all}) {
                due("nobody of " + n, free.sides(set), 0);
                due("the first to let go of " + n, one.sides(set), set == 0 ? 1 : -1);
                due("whose is the last of " + n, last.sides(set), lastToGo(n, set));
            }
            Check.promise(39, "best");
            for (int set : new int[] {0, 1, all}) {
                due("the first of theirs", free.best(set), set == 0 ? -1 : 0);
                due("all alike", last.best(set), set == 0 ? -1 : 0);
            }
            due("the last", last.best(1 << n - 1), n - 1);
            Check.promise(38, "sides");
            due("others", last.sides(all + 1), -3);
        }
        RaftHold loose = raft("holder bears 1 weight 0 loose;");
        both("nobody holds", loose.sides(0), loose.sides(1), 0, 0);
        due("nobody to let go", loose.best(1), -1);
    }

    /** Each side lets go by turns as long as it has some: whoever lets the last one go has lost. */
    private static int lastToGo(int n, int set) {
        int ours = Integer.bitCount(set);
        int theirs = n - ours;
        boolean oursOn = true;
        while (true) {
            if (oursOn && ours > 0) {
                ours--;
            } else if (!oursOn && theirs > 0) {
                theirs--;
            }
            if (ours + theirs == 0) {
                return oursOn ? -1 : 1;
            }
            oursOn = !oursOn;
        }
    }

    private static void sidesWhenItSinks() {
        Check.promise(38, "sides");
        RaftHold sunk = raft("holder bears 0 weight 1;");
        both("it sinks now", sunk.sides(0), sunk.sides(1), -5, -5);
        due("others ahead", sunk.sides(2), -3);
        String three = ZERO.repeat(3);
        due("at once, though it would float then", raft(three + "lets:all=2;floats:not all=2;").sides(1), -1);
        due("in some week", raft(three + "lets:all=2 and who=2;floats:not all=1;").sides(1), -1);
        due("when it has settled", raft(three + "lets:all<3;floats:all>0;").sides(1), -1);
        due("nobody to let go, yet it settles: those who are on", raft(ZERO.repeat(2) + "lets:all=2;floats:all>1;").sides(0), -1);
        due("the others have nobody to let go", raft(ZERO.repeat(2) + "lets:all=1 and who=1;floats:all>0;").sides(3), -1);
        due("no settling ahead of the first", raft(ZERO.repeat(2) + "lets:all=2;floats:all>0;").sides(3), -1);
        due("one of theirs goes, the other too", raft(three + "floats:all>1;").sides(7), -1);
        due("not all alike: the best for the others", raft("holder bears 2 weight 0;" + ZERO + "holder bears 1 weight 0;floats:bears>1;").sides(6), 1);
        due("the others' second is their best", raft("holder bears 9 weight 0;".repeat(2) + ZERO + ZERO
            + "floats:bears>17 and all>1;").sides(4), 1);
        due("the others' first is their best", raft(ZERO + "holder bears 9 weight 0;" + ZERO + ZERO + "floats:bears>8 and all>1;").sides(12), -1);
    }

    private static void bestOfLikeOnes() {
        Check.promise(39, "best");
        RaftHold x = raft(ZERO.repeat(8) + "floats:all>1;");
        for (int p = 0; p < 8; p++) {
            due("the first of like ones", x.best(255 & -(1 << p)), p);
            due("just one", x.best(1 << p), p);
        }
        due("others", x.best(256), -3);
        due("others", x.best(-1), -3);
        due("none of theirs", x.best(0), -1);
        x.go(4);
        due("it doesn't hold", x.best(16), -1);
        due("the next one", x.best(48), 5);
        RaftHold sunk = raft("holder bears 0 weight 1;");
        due("it sinks now, ahead of none", sunk.best(0), -5);
        due("others ahead", sunk.best(2), -3);
        RaftHold bad = raft("holder bears 9 weight 0;".repeat(2) + ZERO.repeat(3) + "floats:bears>17;");
        due("the first would sink it", bad.best(13), 2);
        due("the others lose", bad.sides(13), 1);
        due("each sinks it", bad.best(3), 0);
    }

    private static void chance(String why, RaftHold x, int n, int above, int below) {
        both("chance " + n + ": " + why, x.chance(n, 0), x.chance(n, 1), above, below);
    }

    private static void mean(String why, RaftHold x, int n, int above, int below) {
        both("mean " + n + ": " + why, x.mean(n, 0), x.mean(n, 1), above, below);
    }

    private static void chanceFrom0To8() {
        Check.promise(40, "chance");
        RaftHold one = raft(HOLDER);
        int above = 1;
        int below = 1;
        for (int n = 0; n <= 8; n++) {
            chance("one", one, n, above, below);
            above *= 9;
            below *= 10;
        }
        due("9 weeks", one.chance(9, 0), -3);
        due("-1 weeks", one.chance(-1, 1), -3);
        due("what ahead", one.chance(-1, 2), -2);
        for (int n = 0; n <= 8; n++) {
            chance("it floats anyhow", raft(ZERO.repeat(8)), n, 1, 1);
            chance("it sinks anyhow", raft("holder bears 0 weight 1;".repeat(8)), n, 0, 1);
        }
        chance("all of eight", raft(HOLDER.repeat(8)), 1, 1, 5);
        chance("all of eight", raft(HOLDER.repeat(8)), 8, 1, 390625);
        RaftHold loose = raft(HOLDER + "holder bears 1 weight 0 loose;");
        chance("lots of those who don't hold are nothing", loose, 1, 9, 10);
        RaftHold law = raft("holder bears 1 weight 1;" + ZERO + "by 0 1;lets:gone>0;");
        chance("first the week, then the lot", law, 1, 9, 10);
        chance("who lets go by the lot of the week ahead", law, 2, 18, 25);
        due("nothing is done", law.count(7) + law.count(8), 0);
        due("nothing is done", law.count(2), 3);
    }

    private static void chanceOfNobody() {
        Check.promise(40, "chance");
        String none = "floats:all=0;";
        chance("nobody holds", raft("holder bears 1 weight 1 loose;" + none), 8, 1, 1);
        chance("one holds", raft(HOLDER + none), 0, 0, 1);
        chance("one has let go", raft(HOLDER + none), 1, 1, 10);
        chance("one has let go", raft(HOLDER + none), 2, 19, 100);
        chance("two have let go", raft(HOLDER.repeat(2) + none), 2, 1, 50);
        chance("all let go", raft(HOLDER.repeat(8) + "lets:1=1;" + none), 1, 1, 1);
        chance("the last of eight", raft(HOLDER.repeat(8) + none), 8, 63, 156250);
        chance("it sinks and floats again", raft(HOLDER + "floats:not all=0;"), 1, 9, 10);
        chance("none and all", raft(HOLDER + "floats:1=1;"), 3, 1, 1);
    }

    private static void meanFrom0To8() {
        Check.promise(41, "mean");
        RaftHold one = raft(HOLDER);
        int above = 1;
        int below = 1;
        for (int n = 0; n <= 8; n++) {
            mean("one", one, n, above, below);
            above *= 9;
            below *= 10;
        }
        due("9 weeks", one.mean(9, 0), -3);
        due("-1 weeks", one.mean(-1, 1), -3);
        due("what ahead", one.mean(9, -1), -2);
        mean("eight now", raft(HOLDER.repeat(8)), 0, 8, 1);
        mean("eight", raft(HOLDER.repeat(8)), 1, 36, 5);
        mean("nobody", raft("holder bears 1 weight 1 loose;".repeat(8)), 8, 0, 1);
        mean("all let go", raft(HOLDER.repeat(8) + "lets:1=1;"), 1, 0, 1);
        mean("a law", raft(HOLDER.repeat(2) + "lets:who=0;"), 2, 81, 100);
        mean("though it sinks", raft("holder bears 0 weight 9;"), 1, 9, 10);
    }

    /** What was told of the raft as it was isn't told again once a part, the storm, who holds or the raft is another. */
    private static void asItIsNow() {
        Check.promise(22, "all questions as it is now");
        RaftHold x = raft("holder bears 1 weight 1;floats:bears>storm;");
        due("floats", x.count(5), 1);
        x.mend(0, 0);
        due("mended", x.count(5), 0);
        x.mend(0, 9);
        due("mended again", x.chance(0, 0), 1);
        x.storm(9);
        due("a storm", x.chance(0, 0), 0);
        due("a storm", x.least(0), -1);
        due("a storm", x.needed(), 0);
        due("a storm", x.sides(0), -5);
        x.undo(1);
        due("undone", x.least(1), 1);
        due("undone", x.needed(), 1);
        due("undone", x.starts(0, 1), 1);
        x.image(0);
        Check.tell(x, RAFT + "holder bears 9 weight 9;floats:bears<storm;");
        due("another raft", x.least(0), -1);
        due("another raft", x.starts(0, 0), 0);
        x.restore(0);
        due("the one ahead", x.least(1), 1);
        due("the one ahead", x.starts(0, 1), 1);
        Check.tray(x, 0, 39, 100, 30, 109);
        due("judged", x.judge(0, 3), 1);
        due("as if", x.count(5), 1);
        RaftHold law = raft(HOLDER.repeat(2) + "lets:bears<storm;");
        due("nobody", law.spark(1) * 10 + law.mean(1, 0), 19);
        law.storm(2);
        due("all", law.spark(1) * 10 + law.mean(1, 0), 0);
        law.mend(1, 2);
        due("one", law.spark(1) * 100 + law.mean(1, 0) * 10 + law.settles(3, 0), 92);
    }
}
