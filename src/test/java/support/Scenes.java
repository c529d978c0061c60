import java.util.ArrayList;
import java.util.List;

/** Objects as they are behind some calls, the same at each making, and all that can be asked of one. */
final class Scenes {
    static final int EMPTY = 0;
    static final int LOADED = 1;
    static final int FULL = 2;
    static final int NONE_HOLD = 3;
    static final int ALL = 4;

    private static final int MOST_CALLS = 512;
    private static final long MARK = 0x0102030405060708L;

    private Scenes() {
    }

    static RaftHold make(int scene) {
        switch (scene) {
            case EMPTY:
                return new RaftHold();
            case LOADED:
                return loaded();
            case FULL:
                return full();
            default:
                return noneHold();
        }
    }

    static int people(int scene) {
        return new int[] {0, 4, 8, 2}[scene];
    }

    /** A fault is remembered, image 0 is made, four calls can be undone, tray 3 is missing, 20 bytes are on the tape. */
    private static RaftHold loaded() {
        RaftHold x = new RaftHold();
        Check.tell(x, "raft quota 5;holder bears 4 weight 2 votes 3 likes 9 5 1;holder bears 3 weight 3 votes 2 likes 1 9 5;"
            + "holder bears 2 weight 1 votes 2 likes 5 1 9;holder bears 1 weight 2;by 0 1;by 1 2;by 2 3;quarrel 0 1;"
            + "storm 2;lets : who = 3 and storm = 4;floats : bears > 4;");
        x.weeks(3);
        x.image(0);
        x.mend(2, 7);
        x.storm(4);
        x.weeks(1);
        Check.tell(x, "raft quota 1;storm 10;");
        Check.tray(x, 0, 2 * 7 + 1, 2 * 15 + 1, 2);
        x.numbers(1, 0, 0);
        Check.tray(x, 2, 12, 0, 36, 145, 22, 12, 22, 11, 0);
        Check.feed(x, "raft quota 7;");
        return x;
    }

    /** Eight people, both images, ten calls that can be undone and two that are forgotten, full trays, a full tape. */
    private static RaftHold full() {
        RaftHold x = new RaftHold();
        Check.tell(x, "raft quota 99;" + "holder bears 9 weight 9 votes 9;".repeat(8) + "by 0 7;quarrel 7 6;storm 9;lets:gone>0;");
        x.image(0);
        for (int n = 0; n < 9; n++) {
            x.storm(n);
        }
        x.mend(7, 8);
        x.image(1);
        x.go(7);
        x.weeks(2);
        for (int tray = 0; tray < 4; tray++) {
            x.numbers(tray, tray, 40);
            x.write(tray, 38, 27);
            x.write(tray, 39, 11 + tray);
        }
        String text = "raft quota 8;" + " ".repeat(867) + "storm 5;";
        Check.feed(x, text + " ".repeat(900 - text.length()));
        return x;
    }

    /** Two people of whom none holds, yet it floats; tray 0 tells one test, tray 1 one that can't be. */
    private static RaftHold noneHold() {
        RaftHold x = new RaftHold();
        Check.tell(x, "raft quota 3;holder bears 1 weight 0 loose;holder bears 2 weight 0;by 0 1;");
        x.go(1);
        Check.tray(x, 0, 1);
        Check.tray(x, 1, 1, 8);
        Check.tray(x, 2, 0, 10);
        return x;
    }

    /** All that can be asked, then all that can be brought back: what two objects answer alike here is alike in them. */
    static List<Long> look(RaftHold x) {
        List<Long> seen = new ArrayList<>();
        counts(x, seen);
        seen.add((long) x.fault(0));
        seen.add((long) x.fault(1));
        for (int p = 0; p < x.count(0); p++) {
            for (int what : new int[] {0, 1, 2, 3, 4, 5, 10, 11, 12}) {
                seen.add((long) x.holder(p, what));
            }
            seen.add((long) x.lets(p));
        }
        for (int tray = 0; tray < 4; tray++) {
            for (int what = 0; what < 4; what++) {
                seen.add((long) x.judge(tray, what));
            }
            seen.add((long) x.storms(tray));
        }
        lookAtTrays(x, seen);
        lookBack(x, seen);
        for (int i = 0; i < 2; i++) {
            seen.add((long) x.restore(i));
            counts(x, seen);
        }
        seen.add((long) x.raft(x.count(9)));
        counts(x, seen);
        Check.holds("a look within " + MOST_CALLS + " calls", seen.size() < MOST_CALLS - 100);
        return seen;
    }

    private static void counts(RaftHold x, List<Long> seen) {
        for (int what = 0; what <= 10; what++) {
            seen.add((long) x.count(what));
        }
    }

    private static void lookAtTrays(RaftHold x, List<Long> seen) {
        for (int tray = 0; tray < 4; tray++) {
            for (int i : new int[] {0, 1, 2, 3, 8, 9, 39, 40}) {
                seen.add(x.write(tray, i, MARK));
            }
        }
    }

    private static void lookBack(RaftHold x, List<Long> seen) {
        for (int left = x.count(8); left > 0; left--) {
            seen.add((long) x.undo(1));
            seen.add((long) x.count(2));
            seen.add((long) x.count(3));
            seen.add((long) x.count(6));
            seen.add((long) x.count(7));
        }
    }
}
