/** The bounds that the document names for texts: just inside, at them, just outside. */
public final class TextEdgesTest {
    private static final String RAFT = "raft quota 1;";
    private static final String HOLDER = "holder bears 1 weight 1;";
    private static final String TWO = RAFT + HOLDER + HOLDER;
    private static final String MILLION = "(999 * 999 + 999 + 999 + 1)";

    public static void main(String[] args) {
        Check.promise(3, "raft: the bounds of texts");
        nineHundredBytes();
        howManyBytesAreRead();
        withoutText();
        blanks();
        signs();
        digits();
        numbersOfLines();
        whatIsLeftOut();
        laterOnesStrike();
        people();
        pairs();
        raftFirstAndOnce();
        tokensThatCantStand();
        theEnd();
        theFirstFault();
        theLeastKind();
        sixDeep();
        depthEnds();
        lawsBehindFaults();
        wordsOfLaws();
        kept();
        Check.end();
    }

    private static void fine(String text, int lines) {
        RaftHold x = new RaftHold();
        Check.due("raft \"" + text + "\"", Check.tell(x, text), lines);
        Check.due("lines of \"" + text + "\"", x.count(10), lines);
        Check.due("fault of \"" + text + "\"", x.fault(0), 0);
        Check.due("place of \"" + text + "\"", x.fault(1), RaftHold.NONE);
    }

    private static void faulty(String text, int kind, int place) {
        RaftHold x = new RaftHold();
        Check.due("raft \"" + text + "\"", Check.tell(x, text), -30 - kind);
        Check.due("fault of \"" + text + "\"", x.fault(0), kind);
        Check.due("place of \"" + text + "\"", x.fault(1), place);
        Check.due("people behind \"" + text + "\"", x.count(0), 0);
    }

    /** All N of one to three digits, and the first of four. */
    private static void bounded(String ahead, int low, int high, String behind, int lines) {
        for (int n = 0; n <= 999; n++) {
            if (n >= low && n <= high) {
                fine(ahead + n + behind, lines);
            } else {
                faulty(ahead + n + behind, 3, ahead.length());
            }
        }
        faulty(ahead + "1000" + behind, 1, ahead.length());
        faulty(ahead + ";", 2, ahead.length());
    }

    private static String filled(String text, int length) {
        return text + " ".repeat(length - text.length());
    }

    private static void nineHundredBytes() {
        String storm = "storm 7;";
        fine(filled(RAFT, 900 - storm.length()) + storm, 2);
        faulty(filled(RAFT, 899) + ";", 2, 899);
        faulty(filled(RAFT, 899) + "#", 1, 899);
        faulty(filled(RAFT, 899) + "z", 2, 899);
        faulty(filled("", 900), 2, 900);
        faulty(filled("raft quota 1", 900), 2, 900);
        faulty("raft quota" + ";".repeat(890), 2, 10);
        fine(filled(RAFT + "floats:1", 888) + "+1=1+1;" + " ".repeat(5), 2);
        String law = RAFT + "lets:1" + "+1".repeat(430) + "=431;";
        fine(law, 2);
        RaftHold x = new RaftHold();
        Check.feed(x, filled("", 880));
        Check.due("feed up to 900", x.feed(0, 0, 0, 0, 0), 900);
        Check.due("feed above 900", x.feed(0, 0, 0, 0, 0), -5);
        Check.due("it has 900", x.count(9), 900);
        x.raft(0);
        Check.due("feed from 0 on", x.feed(0, 0, 0, 0, 0), 20);
    }

    private static void howManyBytesAreRead() {
        RaftHold x = new RaftHold();
        Check.feed(x, RAFT + "storm 7;");
        Check.due("one more than there are", x.raft(41), -3);
        Check.due("one below 0", x.raft(-1), -3);
        Check.due("the tape stays", x.count(9), 40);
        Check.due("nothing was read", x.fault(1), RaftHold.NONE);
        Check.due("as many as there are", x.raft(40), 2);
        Check.due("the tape is empty", x.count(9), 0);
        Check.due("what is behind isn't read", read(RAFT + "storm 7;", 13), 1);
        Check.due("ahead of its sign", read(RAFT, 12), -32);
        Check.due("in a word", read(RAFT, 3), -32);
        Check.due("nothing", read(RAFT, 0), -32);
        RaftHold word = new RaftHold();
        Check.feed(word, RAFT + "by");
        Check.due("a word of which one letter is read", word.raft(14), -32);
        Check.due("it stands where it begins", word.fault(1), 13);
        Check.due("a number is cut", read("raft quota 1234;", 13), -32);
    }

    private static int read(String text, int n) {
        RaftHold x = new RaftHold();
        Check.feed(x, text);
        int lines = x.raft(n);
        Check.due("the tape is empty", x.count(9), 0);
        Check.due("nothing is left", x.raft(1), -3);
        if (lines < 0) {
            Check.due("the end is the text's length", x.fault(1), n == 3 ? 0 : n);
        }
        return lines;
    }

    private static void withoutText() {
        RaftHold x = new RaftHold();
        Check.due("no people", x.count(0), 0);
        Check.due("quota 1", x.count(1), 1);
        Check.due("storm 0", x.count(6), 0);
        Check.due("no lines", x.count(10), 0);
        fine(RAFT, 1);
        Check.due("a raft of nobody", Check.raft(RAFT).count(0), 0);
    }

    private static void blanks() {
        for (int sign = 0; sign < 256; sign++) {
            String text = RAFT + (char) sign;
            if (sign == 10 || sign == 32) {
                fine(text, 1);
                fine((char) sign + RAFT, 1);
                fine("raft" + (char) sign + "quota" + (char) sign + "1" + (char) sign + ";", 1);
            } else {
                boolean begins = sign >= 'a' && sign <= 'z' || sign >= '0' && sign <= '9' || ";:+-*()[]=<>".indexOf(sign) >= 0;
                faulty(text, begins ? 2 : 1, 13);
            }
        }
        fine("raft quota 1;storm 1;", 2);
        fine("\n\n raft \n quota \n 1 \n ; \n", 1);
    }

    private static void signs() {
        faulty("raft#", 1, 4);
        faulty("raft quota 1#;", 1, 12);
        faulty("raftQuota 1;", 1, 4);
        faulty("Raft quota 1;", 1, 0);
        faulty("raft-quota 1;", 2, 4);
        faulty("raft quota -1;", 2, 11);
        faulty("raft quota +1;", 2, 11);
        faulty("raft quota 1.;", 1, 12);
        faulty("raft quota 1,", 1, 12);
        faulty("raftt quota 1;", 2, 0);
        faulty("raf quota 1;", 2, 0);
        faulty("raft quotas 1;", 2, 5);
    }

    private static void digits() {
        fine("raft quota 9;", 1);
        fine("raft quota 09;", 1);
        fine("raft quota 009;", 1);
        faulty("raft quota 0009;", 1, 11);
        faulty("raft quota 00000000000000000009;", 1, 11);
        faulty("raft quota 999;", 3, 11);
        faulty("raft quota 1000;", 1, 11);
        faulty("raft quota 99999999999;", 1, 11);
        fine(RAFT + "lets:999=999;", 2);
        faulty(RAFT + "lets:1000=999;", 1, 18);
        faulty(RAFT + "lets:999=1000;", 1, 22);
        fine(RAFT + "lets:000=999;", 2);
        faulty(RAFT + "lets:1=12 34;", 2, 23);
    }

    private static void numbersOfLines() {
        bounded("raft quota ", 1, 99, ";", 1);
        bounded(RAFT + "holder bears ", 0, 9, " weight 1;", 2);
        bounded(RAFT + "holder bears 1 weight ", 0, 9, ";", 2);
        bounded(RAFT + "holder bears 1 weight 1 votes ", 0, 9, ";", 2);
        bounded(RAFT + "holder bears 1 weight 1 likes ", 0, 9, " 1 2;", 2);
        bounded(RAFT + "holder bears 1 weight 1 likes 1 ", 0, 9, " 2;", 2);
        bounded(RAFT + "holder bears 1 weight 1 likes 1 2 ", 0, 9, ";", 2);
        bounded(RAFT + "storm ", 0, 9, ";", 2);
        bounded(TWO + "by 0 ", 1, 1, ";", 4);
        bounded(TWO + "by 1 ", 0, 0, ";", 4);
        bounded(TWO + "quarrel 0 ", 1, 1, ";", 4);
        bounded(TWO + "quarrel 1 ", 0, 0, ";", 4);
        bounded(RAFT + "lets : ", 0, 999, "=1;", 2);
        for (int n : new int[] {0, 1, 8, 9}) {
            RaftHold x = Check.raft(RAFT + "holder bears " + n + " weight " + (9 - n) + " votes " + n + " likes " + n + " " + (9 - n)
                + " " + n + ";storm " + n + ";");
            Check.due("bears", x.holder(0, 1), n);
            Check.due("weight", x.holder(0, 2), 9 - n);
            Check.due("votes", x.holder(0, 3), n);
            Check.due("likes", x.holder(0, 10) * 100 + x.holder(0, 11) * 10 + x.holder(0, 12), n * 101 + (9 - n) * 10);
            Check.due("storm", x.count(6), n);
            Check.due("quota", Check.raft("raft quota " + (90 + n) + ";").count(1), 90 + n);
        }
    }

    private static void whatIsLeftOut() {
        RaftHold x = Check.raft(RAFT + HOLDER);
        Check.due("it holds", x.holder(0, 0), 1);
        Check.due("one vote", x.holder(0, 3), 1);
        Check.due("likes none", x.holder(0, 10) + x.holder(0, 11) + x.holder(0, 12), 0);
        Check.due("beside nobody", x.holder(0, 4), 0);
        Check.due("quarrels with nobody", x.holder(0, 5), 0);
        Check.due("storm 0", x.count(6), 0);
        Check.due("loose", Check.raft(RAFT + "holder bears 1 weight 1 loose;").holder(0, 0), 0);
        Check.due("loose twice", Check.raft(RAFT + "holder bears 1 weight 1 loose loose;").holder(0, 0), 0);
    }

    private static void laterOnesStrike() {
        RaftHold x = Check.raft(RAFT + "holder bears 1 weight 1 votes 9 likes 9 9 9 loose votes 0 likes 0 1 0;storm 9;storm 0;"
            + "lets:1=1;floats:1=2;floats:all=0;lets:1=2;");
        Check.due("votes", x.holder(0, 3), 0);
        Check.due("likes", x.holder(0, 10) * 100 + x.holder(0, 11) * 10 + x.holder(0, 12), 10);
        Check.due("still loose", x.holder(0, 0), 0);
        Check.due("storm", x.count(6), 0);
        Check.due("floats", x.floats(0) * 10 + x.floats(1), 10);
        x.take(0);
        Check.due("lets", x.lets(0), 0);
        Check.due("all lines count", x.count(10), 8);
    }

    private static void people() {
        for (int n = 0; n <= 8; n++) {
            RaftHold x = new RaftHold();
            Check.due(n + " people", Check.tell(x, RAFT + HOLDER.repeat(n)), 1 + n);
            Check.due(n + " people", x.count(0), n);
            Check.due(n + " hold", x.count(2), (1 << n) - 1);
        }
        String eight = RAFT + HOLDER.repeat(8);
        faulty(eight + HOLDER, 4, eight.length());
        faulty(eight + "storm 1;  holder", 4, eight.length() + 10);
        faulty(eight + "holder #", 4, eight.length());
        faulty(eight + "holder holder", 4, eight.length());
        faulty(eight + "bears 1 weight 1;", 2, eight.length());
    }

    private static void pairs() {
        faulty(RAFT + "by 0 1;", 3, 16);
        faulty(RAFT + HOLDER + "by 0 0;", 3, 42);
        faulty(RAFT + HOLDER + "by 0 1;", 3, 42);
        faulty(RAFT + HOLDER + "by 1 0;", 3, 40);
        faulty(RAFT + HOLDER + "by 0 1;" + HOLDER, 3, 42);
        faulty(RAFT + HOLDER + "quarrel 0 1;" + HOLDER, 3, 47);
        faulty(TWO + "by 2 0;", 3, 64);
        faulty(TWO + "by 2 2;", 3, 64);
        faulty(TWO + "quarrel 2 2;", 3, 69);
        faulty(TWO + "by 1 1;", 3, 66);
        faulty(TWO + "quarrel 0 0;", 3, 71);
        faulty(TWO + "by 1 01;", 3, 66);
        faulty(TWO + "by 0 1 0;", 2, 68);
        RaftHold x = Check.raft(TWO + "by 0 1;by 1 0;by 0 1;quarrel 1 0;quarrel 1 0;");
        Check.due("once is enough", x.holder(0, 4) * 10 + x.holder(1, 4), 21);
        Check.due("once is enough", x.holder(0, 5) * 10 + x.holder(1, 5), 21);
        Check.due("one pair", x.quarrels(), 1);
        RaftHold ends = Check.raft(RAFT + HOLDER.repeat(8) + "by 7 0;quarrel 0 7;");
        Check.due("the first and the last", ends.holder(0, 4) * 1000 + ends.holder(7, 4), 128001);
        Check.due("the first and the last", ends.holder(0, 5) * 1000 + ends.holder(7, 5), 128001);
    }

    private static void raftFirstAndOnce() {
        faulty("storm 1;" + RAFT, 2, 0);
        faulty(HOLDER + RAFT, 2, 0);
        faulty("quota 1;", 2, 0);
        faulty(RAFT + RAFT, 2, 13);
        faulty(RAFT + "storm 1;" + RAFT, 2, 21);
        faulty(RAFT + "raft", 2, 13);
    }

    private static void tokensThatCantStand() {
        String[] lines = {"quota 1;", "bears 1;", "weight 1;", "loose;", "votes 1;", "likes 1 2 3;", "not 1=1;", "1;", "all;", "wet;", ";", ":", "["};
        for (String line : lines) {
            faulty(RAFT + line, 2, 13);
        }
        faulty(RAFT + "holder bears 1 weight 1 by;", 2, 37);
        faulty(RAFT + "holder bears 1 weight 1 bears 1;", 2, 37);
        faulty(RAFT + "holder bears 1 weight 1 1;", 2, 37);
        faulty(RAFT + "holder bears 1 weight 1 loose 1;", 2, 43);
        faulty(RAFT + "holder bears 1 weight 1 votes 1 2;", 2, 45);
        faulty(RAFT + "holder loose bears 1 weight 1;", 2, 20);
        faulty(RAFT + "holder 1 1;", 2, 20);
        faulty(RAFT + "holder bears weight 1;", 2, 26);
        faulty(RAFT + "storm 1 2;", 2, 21);
        faulty(RAFT + "storm : 1;", 2, 19);
        faulty(RAFT + "lets;", 2, 17);
        faulty(RAFT + "lets:;", 2, 18);
        faulty(RAFT + "floats:;", 2, 20);
    }

    private static void theEnd() {
        String[] parts = {"raft", " quota", " 1", ";holder", " bears", " 1", " weight", " 1", " votes", " 1", " likes", " 1", " 2",
            " 3", ";lets", ":", "not", "[", "(", "all", "*", "2", ")", "=", "1", "]", ";storm", " 5"};
        StringBuilder text = new StringBuilder();
        for (String part : parts) {
            text.append(part);
            faulty(text.toString(), 2, text.length());
            faulty(text + " \n ", 2, text.length() + 3);
        }
        fine(text + ";", 4);
        faulty("", 2, 0);
    }

    private static void theFirstFault() {
        faulty("raft quota 0;storm 10;#", 3, 11);
        faulty(RAFT + "storm 10;#", 3, 19);
        faulty(RAFT + "wet #", 2, 13);
        faulty(RAFT + "storm # 10;", 1, 19);
        faulty(RAFT + HOLDER.repeat(9) + "#", 4, 205);
        faulty(RAFT + "lets:(((((((1 #", 4, 24);
        faulty(RAFT + "lets:1=1000 wet", 1, 20);
    }

    /** Of one token the least kind: 1 ahead of all, 2 ahead of 3 and 4. */
    private static void theLeastKind() {
        faulty("raft quota 1000;", 1, 11);
        faulty("raft 0;", 2, 5);
        faulty("raft 1000;", 1, 5);
        faulty(RAFT + "holder bears 1000 weight 1;", 1, 26);
        faulty(RAFT + "1000", 1, 13);
        faulty(RAFT + "by 1000 0;", 1, 16);
        faulty(TWO + "by 1 1000;", 1, 66);
        faulty(RAFT + "lets:1=((((((((;", 4, 26);
        faulty(RAFT + "lets:((((((not", 2, 24);
        faulty(RAFT + "lets:(((((([", 2, 24);
        faulty(RAFT + "lets:not not not not not not 1 (", 2, 44);
        faulty(RAFT + "lets:not not not not not not 1 not", 2, 44);
        faulty(RAFT + "lets:[[[[[[1=1[", 2, 27);
        faulty(RAFT + HOLDER.repeat(7) + "holder holder", 2, RAFT.length() + 7 * HOLDER.length() + 7);
    }

    /** Every row of six and of seven of not [ ( that may be within one another; ( takes none of the others in. */
    private static void sixDeep() {
        for (int deep = 1; deep <= 7; deep++) {
            for (int outer = 0; outer <= deep; outer++) {
                for (int kinds = 0; kinds < 1 << outer; kinds++) {
                    nested(deep, outer, kinds);
                }
            }
        }
    }

    private static void nested(int deep, int outer, int kinds) {
        StringBuilder ahead = new StringBuilder(RAFT + "floats: ");
        StringBuilder behind = new StringBuilder();
        int last = 0;
        for (int i = 0; i < deep; i++) {
            last = ahead.length();
            boolean not = i < outer && (kinds >> i & 1) == 0;
            ahead.append(i >= outer ? "(" : not ? "not " : "[");
            behind.insert(0, i >= outer || not ? "" : "]");
        }
        String text = ahead + "1" + ")".repeat(deep - outer) + " = 1" + behind + ";";
        String right = RAFT + "floats: 1 = " + "(".repeat(deep) + "1" + ")".repeat(deep) + ";";
        if (deep <= 6) {
            fine(text, 2);
            fine(right, 2);
        } else {
            faulty(text, 4, last);
            faulty(right, 4, 31);
        }
    }

    /** What is closed, or a not behind its unit, isn't around what comes then. */
    private static void depthEnds() {
        String six = "not not not not not not 1=1";
        fine(RAFT + "lets:" + six + " and " + six + " or " + six + ";", 2);
        fine(RAFT + "lets:[[[[[[1=1]]]]]] or [[[[[[1=1]]]]]];", 2);
        fine(RAFT + "lets:((((((1))))))+((((((1))))))*((((((1))))))=((((((1))))));", 2);
        fine(RAFT + "lets:not not [ [ (1)=1 and (2)=2 ] and not [1=(1)] ];", 2);
        fine(RAFT + "lets:not not not not not [ 1=1 and 1=1 ] and [(1)=(1)];", 2);
        String full = RAFT + "lets:not not not not not [ 1=1 and ";
        faulty(full + "not 1=1];", 4, full.length());
        faulty(full + "(1)=1];", 4, full.length());
        faulty(full + "1=1*(1)];", 4, full.length() + 4);
        faulty(full + "1=1] and " + six + " and not " + six + ";", 4, full.length() + 9 + six.length() + 9 + 20);
    }

    /** A text that was refused in the middle of a law leaves nothing to the next one. */
    private static void lawsBehindFaults() {
        String[] broken = {"lets:[[[[[[1", "lets:((((((1", "lets:not not not not not not 1", "lets:1=2+3*", "lets:1=1 and not", "floats:[1=1 or 2"};
        for (String law : broken) {
            RaftHold x = new RaftHold();
            Check.due("raft with " + law, Check.tell(x, RAFT + law), -32);
            String six = RAFT + HOLDER + "lets:not not not not not not 1=1;floats:1=2;";
            Check.due("a fine one behind " + law, Check.tell(x, six), 4);
            Check.due("its law of weeks", x.lets(0), 1);
            Check.due("its law of floating", x.floats(1), 0);
            Check.due("raft with " + law, Check.tell(x, RAFT + law), -32);
            Check.due("a law that isn't whole behind " + law, Check.tell(x, RAFT + "lets:1;"), -32);
            Check.due("its place", x.fault(1), 19);
        }
    }

    private static void wordsOfLaws() {
        for (String word : new String[] {"all", "storm", "bears", "weight", "who", "near", "gone", "parts", "votes", "likes", "loose", "by",
            "raft", "quota", "holder", "quarrel", "lets", "floats", "not", "and", "or", "al", "alls"}) {
            boolean both = word.equals("all") || word.equals("storm") || word.equals("bears") || word.equals("weight");
            boolean lets = word.equals("who") || word.equals("near") || word.equals("gone");
            for (String line : new String[] {"lets", "floats"}) {
                String ahead = RAFT + line + ":1=";
                if (both || (lets ? line.equals("lets") : word.equals("parts") && line.equals("floats"))) {
                    fine(ahead + word + ";", 2);
                    fine(RAFT + line + ":(" + word + ")*2<1;", 2);
                } else {
                    faulty(ahead + word + ";", 2, ahead.length());
                }
            }
        }
    }

    private static void holds(String truth, boolean want) {
        RaftHold x = new RaftHold();
        Check.due("lines", Check.tell(x, RAFT + "holder bears 9 weight 9;floats:" + truth + ";lets:" + truth + ";"), 4);
        Check.due("floats : " + truth, x.count(5), want ? 1 : 0);
        Check.due("lets : " + truth, x.lets(0), want ? 1 : 0);
    }

    /** Each + - * is kept from -1,000,000 to 1,000,000: one below, at it, one above, far above. */
    private static void kept() {
        String m = MILLION;
        String least = "(0 - " + m + ")";
        holds(m + " - 1 + 1 = " + m, true);
        holds(m + " - 1 + 1 - " + m + " = 0", true);
        holds(m + " - 2 + 1 - " + m + " = 0 - 1", true);
        holds(m + " + 1 = " + m, true);
        holds(m + " + 1 - 1 = " + m, false);
        holds(m + " + 1 - 1 = " + m + " - 1", true);
        holds(m + " + " + m + " = " + m, true);
        holds(m + " - " + least + " = " + m, true);
        holds(least + " + 1 > " + least, true);
        holds(least + " - 1 = " + least, true);
        holds(least + " - 1 + 1 = " + least + " + 1", true);
        holds(least + " - " + m + " = " + least, true);
        holds(least + " + " + least + " = " + least, true);
        holds("500 * 100 * 20 = " + m, true);
        holds("999 * (999 + 2) = " + m, false);
        holds("999 * (999 + 2) + 1 = " + m, true);
        holds("101 * (99 * 100 + 1) = " + m, true);
        holds("101 * (99 * 100 + 1) - 1 = " + m + " - 1", true);
        holds("(0 - 101) * (99 * 100 + 1) = " + least, true);
        holds("(0 - 999) * (999 + 2) = " + least + " + 1", true);
        holds(m + " * " + m + " = " + m, true);
        holds(m + " * " + least + " = " + least, true);
        holds(least + " * " + least + " = " + m, true);
        holds("0 - " + m + " < 0", true);
        holds(m + " - " + m + " = 0", true);
        holds("999 * 999 * 999 - 999 * 999 * 998 = 0", true);
    }
}
