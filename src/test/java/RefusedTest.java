import java.util.List;
import java.util.function.ToLongFunction;

/** Every refused call has the document's code, the one that the call tells first, and changes nothing. */
public final class RefusedTest {
    private static final int MIN = Integer.MIN_VALUE;
    private static final int MAX = Integer.MAX_VALUE;
    private static final int NO_SUCH = -2;
    private static final int BAD_NUMBER = -3;
    private static final int TOO_MANY = -4;
    private static final int NOT_NOW = -5;
    private static final int MISSING = -6;
    private static final int NO_PLACE = -7;

    public static void main(String[] args) {
        for (int scene = 0; scene < Scenes.ALL; scene++) {
            theRaft(scene);
            deeds(scene);
            settling(scene);
            fewest(scene);
            votesAndPlaces(scene);
            tested(scene);
            turnsAndChances(scene);
            traysAndImages(scene);
            noneOfOthers(scene);
            askingChangesNothing(scene);
        }
        byScene();
        faultsKeepAll();
        Check.end();
    }

    /** One of two alike objects has the call: it answers by the code, and both are still alike. */
    private static void refused(int scene, String call, long code, ToLongFunction<RaftHold> how) {
        RaftHold asked = Scenes.make(scene);
        Check.due("scene " + scene + ": " + call, how.applyAsLong(asked), code);
        alike(scene, call, asked);
    }

    private static void alike(int scene, String call, RaftHold asked) {
        List<Long> got = Scenes.look(asked);
        List<Long> want = Scenes.look(Scenes.make(scene));
        Check.holds("scene " + scene + ": " + call + " changes nothing", got.equals(want));
    }

    private static void theRaft(int scene) {
        int people = Scenes.people(scene);
        int taped = Scenes.make(scene).count(9);
        Check.promise(3, "raft");
        for (int n : new int[] {-1, MIN, taped + 1, 901, MAX}) {
            refused(scene, "raft " + n, BAD_NUMBER, x -> x.raft(n));
        }
        Check.promise(5, "holder");
        for (int p : new int[] {-1, MIN, people, 8, MAX}) {
            refused(scene, "holder " + p, NO_SUCH, x -> x.holder(p, 0));
            Check.promise(6, "lets");
            refused(scene, "lets " + p, NO_SUCH, x -> x.lets(p));
            Check.promise(5, "holder");
        }
        for (int what : new int[] {-1, MIN, 6, 7, 8, 9, 13, MAX}) {
            refused(scene, "holder of what " + what, NO_SUCH, x -> x.holder(0, what));
        }
        for (int set : noSets(people)) {
            Check.promise(7, "floats");
            refused(scene, "floats " + set, BAD_NUMBER, x -> x.floats(set));
            Check.promise(8, "pieces");
            refused(scene, "pieces " + set, BAD_NUMBER, x -> x.pieces(set));
        }
    }

    private static int[] noSets(int people) {
        int others = 1 << people;
        return new int[] {others, others | others - 1, -1, MIN, MAX, 1 << 31 - people};
    }

    private static void deeds(int scene) {
        int people = Scenes.people(scene);
        Check.promise(9, "weeks");
        for (int n : new int[] {0, -1, 100, MIN, MAX}) {
            refused(scene, "weeks " + n, BAD_NUMBER, x -> x.weeks(n));
        }
        for (int p : new int[] {-1, MIN, people, 8, 32, MAX}) {
            Check.promise(10, "go");
            refused(scene, "go " + p, -11, x -> x.go(p));
            Check.promise(11, "take");
            refused(scene, "take " + p, -11, x -> x.take(p));
            Check.promise(12, "mend");
            refused(scene, "mend " + p, -11, x -> x.mend(p, 1));
            refused(scene, "mend " + p + " to 10", -11, x -> x.mend(p, 10));
        }
        for (int n : new int[] {-1, 10, MIN, MAX}) {
            Check.promise(12, "mend");
            refused(scene, "mend to " + n, -11, x -> x.mend(0, n));
            Check.promise(13, "storm");
            refused(scene, "storm " + n, -11, x -> x.storm(n));
        }
        int undoable = Scenes.make(scene).count(8);
        Check.promise(14, "undo");
        for (int n : new int[] {0, -1, MIN, undoable + 1, 11, MAX}) {
            refused(scene, "undo " + n, BAD_NUMBER, x -> x.undo(n));
        }
        for (int tray : new int[] {-1, 4, MIN, MAX}) {
            Check.promise(15, "judge");
            refused(scene, "judge " + tray, NO_SUCH, x -> x.judge(tray, 0));
            Check.promise(16, "perform");
            refused(scene, "perform " + tray, NO_SUCH, x -> x.perform(tray));
        }
        Check.promise(15, "judge");
        for (int what : new int[] {-1, 4, MIN, MAX}) {
            for (int tray = 0; tray < 4; tray++) {
                int t = tray;
                refused(scene, "judge " + t + " of what " + what, NO_SUCH, x -> x.judge(t, what));
            }
        }
        Check.promise(17, "year");
        for (int times : new int[] {0, -1, 41, MIN, MAX}) {
            refused(scene, "year of " + times, BAD_NUMBER, x -> x.year(5, times));
        }
    }

    private static void settling(int scene) {
        int people = Scenes.people(scene);
        Check.promise(18, "settles");
        for (int what : new int[] {-1, 2, MIN, MAX}) {
            refused(scene, "settles of what " + what, NO_SUCH, x -> x.settles(0, what));
            refused(scene, "settles of no set and what " + what, NO_SUCH, x -> x.settles(1 << people, what));
        }
        for (int set : noSets(people)) {
            refused(scene, "settles " + set, BAD_NUMBER, x -> x.settles(set, 0));
            refused(scene, "settles " + set, BAD_NUMBER, x -> x.settles(set, 1));
        }
        Check.promise(19, "when");
        for (int p : new int[] {-1, MIN, people, 8, MAX}) {
            refused(scene, "when " + p, NO_SUCH, x -> x.when(p));
        }
    }

    private static void fewest(int scene) {
        int people = Scenes.people(scene);
        for (int what : new int[] {-1, 2, MIN, MAX}) {
            Check.promise(22, "starts");
            refused(scene, "starts of kind " + what, NO_SUCH, x -> x.starts(what, 0));
            refused(scene, "starts 0 of what " + what, NO_SUCH, x -> x.starts(0, what));
            refused(scene, "starts 1 of what " + what, NO_SUCH, x -> x.starts(1, what));
            Check.promise(23, "spark");
            refused(scene, "spark of what " + what, NO_SUCH, x -> x.spark(what));
            Check.promise(24, "cut");
            refused(scene, "cut of what " + what, NO_SUCH, x -> x.cut(0, 1, what));
            Check.promise(25, "least");
            refused(scene, "least of what " + what, NO_SUCH, x -> x.least(what));
        }
        Check.promise(24, "cut");
        for (int p : new int[] {-1, MIN, people, 8, MAX}) {
            refused(scene, "cut " + p + " off", NO_SUCH, x -> x.cut(p, 0, 0));
            refused(scene, "cut off " + p, NO_SUCH, x -> x.cut(0, p, 1));
        }
        for (int p = 0; p < people; p++) {
            int one = p;
            refused(scene, "cut both " + p, NO_SUCH, x -> x.cut(one, one, 0));
        }
    }

    private static void votesAndPlaces(int scene) {
        int people = Scenes.people(scene);
        for (int p : new int[] {-1, MIN, people, 8, MAX}) {
            Check.promise(27, "power");
            refused(scene, "power " + p, NO_SUCH, x -> x.power(p, 0));
            Check.promise(29, "swings");
            refused(scene, "swings " + p, NO_SUCH, x -> x.swings(p));
        }
        for (int what : new int[] {-1, 2, MIN, MAX}) {
            Check.promise(27, "power");
            refused(scene, "power of what " + what, NO_SUCH, x -> x.power(0, what));
            Check.promise(30, "winning");
            refused(scene, "winning of what " + what, NO_SUCH, x -> x.winning(what));
            Check.promise(32, "island");
            refused(scene, "island of what " + what, NO_SUCH, x -> x.island(what));
        }
        Check.promise(31, "beats");
        for (int i : new int[] {-1, 3, MIN, MAX}) {
            refused(scene, "beats of " + i, NO_SUCH, x -> x.beats(i, 0));
            refused(scene, "beats with " + i, NO_SUCH, x -> x.beats(0, i));
            refused(scene, "beats of twice " + i, NO_SUCH, x -> x.beats(i, i));
        }
        Check.promise(33, "placing");
        for (int what : new int[] {-1, 1, 9, 10 + people, 18, -10, MIN, MIN + 10, MAX}) {
            refused(scene, "placing " + what, NO_SUCH, x -> x.placing(what));
        }
    }

    private static void tested(int scene) {
        int people = Scenes.people(scene);
        for (int tray : new int[] {-1, 4, MIN, MAX}) {
            Check.promise(35, "bearings");
            refused(scene, "bearings by tray " + tray, NO_SUCH, x -> x.bearings(tray, 0));
            Check.promise(36, "storms");
            refused(scene, "storms by tray " + tray, NO_SUCH, x -> x.storms(tray));
            Check.promise(37, "attempt");
            refused(scene, "attempt by tray " + tray, NO_SUCH, x -> x.attempt(tray, 0));
        }
        for (int tray = 0; tray < 4; tray++) {
            int t = tray;
            for (int p : new int[] {-1, MIN, people, 8, MAX}) {
                Check.promise(35, "bearings");
                refused(scene, "bearings by " + t + " of " + p, NO_SUCH, x -> x.bearings(t, p));
                Check.promise(37, "attempt");
                refused(scene, "attempt by " + t + " of " + p, NO_SUCH, x -> x.attempt(t, p));
            }
        }
    }

    private static void turnsAndChances(int scene) {
        for (int set : noSets(Scenes.people(scene))) {
            Check.promise(38, "sides");
            refused(scene, "sides " + set, BAD_NUMBER, x -> x.sides(set));
            Check.promise(39, "best");
            refused(scene, "best " + set, BAD_NUMBER, x -> x.best(set));
        }
        for (int what : new int[] {-1, 2, MIN, MAX}) {
            for (int n : new int[] {-1, 0, 8, 9}) {
                Check.promise(40, "chance");
                refused(scene, "chance " + n + " of what " + what, NO_SUCH, x -> x.chance(n, what));
                Check.promise(41, "mean");
                refused(scene, "mean " + n + " of what " + what, NO_SUCH, x -> x.mean(n, what));
            }
        }
        for (int n : new int[] {-1, 9, MIN, MAX}) {
            for (int what = 0; what < 2; what++) {
                int w = what;
                Check.promise(40, "chance");
                refused(scene, "chance " + n, BAD_NUMBER, x -> x.chance(n, w));
                Check.promise(41, "mean");
                refused(scene, "mean " + n, BAD_NUMBER, x -> x.mean(n, w));
            }
        }
    }

    private static void traysAndImages(int scene) {
        for (int tray : new int[] {-1, 4, MIN, MAX}) {
            Check.promise(42, "numbers");
            refused(scene, "numbers of tray " + tray, NO_SUCH, x -> x.numbers(tray, 0, 1));
            refused(scene, "numbers of tray " + tray + " and too many", NO_SUCH, x -> x.numbers(tray, 0, 41));
            Check.promise(43, "write");
            refused(scene, "write to tray " + tray, NO_SUCH, x -> x.write(tray, 0, 1));
            refused(scene, "write to tray " + tray + " and no place", NO_SUCH, x -> x.write(tray, -1, 1));
            Check.promise(44, "lists");
            refused(scene, "lists to tray " + tray, NO_SUCH, x -> x.lists(tray));
        }
        for (int tray = 0; tray < 4; tray++) {
            int t = tray;
            Check.promise(42, "numbers");
            for (int sort : new int[] {-1, 4, MIN, MAX}) {
                refused(scene, "numbers of sort " + sort, NO_SUCH, x -> x.numbers(t, sort, 1));
                refused(scene, "numbers of sort " + sort + " and too many", NO_SUCH, x -> x.numbers(t, sort, 41));
            }
            for (int n : new int[] {-1, 41, MIN, MAX}) {
                refused(scene, n + " numbers", BAD_NUMBER, x -> x.numbers(t, 3, n));
            }
        }
        for (int i : new int[] {-1, 2, MIN, MAX}) {
            Check.promise(45, "image");
            refused(scene, "image " + i, NO_SUCH, x -> x.image(i));
            Check.promise(46, "restore");
            refused(scene, "restore " + i, NO_SUCH, x -> x.restore(i));
        }
    }

    private static void noneOfOthers(int scene) {
        for (int what : new int[] {-1, 2, 11, MIN, MAX}) {
            Check.promise(4, "fault");
            refused(scene, "fault " + what, RaftHold.NONE, x -> x.fault(what));
        }
        Check.promise(47, "count");
        for (int what : new int[] {-1, 11, MIN, MAX}) {
            refused(scene, "count " + what, RaftHold.NONE, x -> x.count(what));
        }
    }

    /** What no promise tells to change stays, whatever was asked. */
    private static void askingChangesNothing(int scene) {
        Check.promise(5, "and all that only asks");
        RaftHold x = Scenes.make(scene);
        for (int what = 0; what < 2; what++) {
            x.starts(0, what);
            x.starts(1, what);
            x.spark(what);
            x.cut(0, 1, what);
            x.least(what);
            x.power(0, what);
            x.winning(what);
            x.island(what);
            x.chance(8, what);
            x.mean(8, what);
            x.settles(0, what);
            x.settles((1 << Scenes.people(scene)) - 1, what);
        }
        for (int tray = 0; tray < 4; tray++) {
            x.judge(tray, 0);
            x.judge(tray, 3);
            x.bearings(tray, 0);
            x.storms(tray);
            x.attempt(tray, 0);
        }
        x.floats(0);
        x.pieces(0);
        x.when(0);
        x.sinks();
        x.steady();
        x.needed();
        x.dummies();
        x.swings(0);
        x.beats(0, 1);
        x.placing(0);
        x.placing(10);
        x.quarrels();
        x.sides(0);
        x.best(0);
        alike(scene, "all that only asks", x);
    }

    /** Codes that hang on how it is now. */
    private static void byScene() {
        Check.promise(2, "feed");
        refused(Scenes.FULL, "feed", NOT_NOW, x -> x.feed(1, 2, 3, 4, 5));
        Check.promise(10, "go");
        refused(Scenes.LOADED, "go of one who doesn't hold", -12, x -> x.go(3));
        refused(Scenes.NONE_HOLD, "go of one who doesn't hold", -12, x -> x.go(0));
        Check.promise(11, "take");
        refused(Scenes.LOADED, "take of one who holds", -12, x -> x.take(0));
        refused(Scenes.FULL, "take of one who holds", -12, x -> x.take(6));
        for (int tray = 0; tray < 4; tray++) {
            missing(Scenes.EMPTY, tray);
        }
        missing(Scenes.LOADED, 3);
        missing(Scenes.NONE_HOLD, 3);
        Check.promise(24, "cut");
        refused(Scenes.LOADED, "cut of one who doesn't hold", NOT_NOW, x -> x.cut(3, 0, 0));
        refused(Scenes.LOADED, "cut of one who doesn't hold", NOT_NOW, x -> x.cut(0, 3, 1));
        refused(Scenes.LOADED, "cut of what 2", NO_SUCH, x -> x.cut(0, 3, 2));
        refused(Scenes.LOADED, "cut of both who doesn't hold", NO_SUCH, x -> x.cut(3, 3, 0));
        refused(Scenes.NONE_HOLD, "cut where none holds", NOT_NOW, x -> x.cut(0, 1, 0));
        tests();
        sunk();
        Check.promise(43, "write");
        refused(Scenes.LOADED, "write behind the last", NO_PLACE, x -> x.write(0, 3, 1));
        refused(Scenes.LOADED, "write ahead of the first", NO_PLACE, x -> x.write(0, -1, 1));
        refused(Scenes.LOADED, "write to one of no numbers", NO_PLACE, x -> x.write(1, 0, 1));
        refused(Scenes.FULL, "write behind the fortieth", NO_PLACE, x -> x.write(3, 40, 1));
        refused(Scenes.FULL, "write far behind", NO_PLACE, x -> x.write(3, MAX, 1));
        refused(Scenes.FULL, "write far ahead", NO_PLACE, x -> x.write(3, MIN, 1));
        Check.promise(46, "restore");
        refused(Scenes.EMPTY, "restore 0", NOT_NOW, x -> x.restore(0));
        refused(Scenes.EMPTY, "restore 1", NOT_NOW, x -> x.restore(1));
        refused(Scenes.LOADED, "restore 1", NOT_NOW, x -> x.restore(1));
    }

    private static void missing(int scene, int tray) {
        Check.promise(15, "judge");
        for (int what = 0; what < 4; what++) {
            int w = what;
            refused(scene, "judge of a missing one", MISSING, x -> x.judge(tray, w));
        }
        Check.promise(16, "perform");
        refused(scene, "perform of a missing one", MISSING, x -> x.perform(tray));
        Check.promise(36, "storms");
        refused(scene, "storms of a missing one", MISSING, x -> x.storms(tray));
        Check.promise(43, "write");
        refused(scene, "write to a missing one", MISSING, x -> x.write(tray, 0, 1));
        refused(scene, "write to a missing one and no place", MISSING, x -> x.write(tray, 40, 1));
        Check.promise(44, "lists");
        refused(scene, "lists to a missing one", MISSING, x -> x.lists(tray));
        if (Scenes.people(scene) > 0) {
            Check.promise(35, "bearings");
            refused(scene, "bearings of a missing one", MISSING, x -> x.bearings(tray, 0));
            Check.promise(37, "attempt");
            refused(scene, "attempt of a missing one", MISSING, x -> x.attempt(tray, 0));
        }
    }

    private static void tests() {
        Check.promise(35, "bearings, storms, attempt");
        testsRefused(Scenes.LOADED, 1, "no numbers", TOO_MANY);
        testsRefused(Scenes.LOADED, 2, "nine, some no sets", TOO_MANY);
        testsRefused(Scenes.FULL, 3, "forty", TOO_MANY);
        testsRefused(Scenes.NONE_HOLD, 1, "the last is no set", BAD_NUMBER);
        testsRefused(Scenes.NONE_HOLD, 2, "the last is no set", BAD_NUMBER);
    }

    private static void testsRefused(int scene, int tray, String why, int code) {
        refused(scene, "bearings of " + why, code, x -> x.bearings(tray, 0));
        refused(scene, "storms of " + why, code, x -> x.storms(tray));
        refused(scene, "attempt of " + why, code, x -> x.attempt(tray, 0));
    }

    private static void sunk() {
        RaftHold x = Check.raft("raft quota 1;holder bears 1 weight 2;");
        for (int set = 0; set < 2; set++) {
            Check.promise(38, "sides");
            Check.due("it sinks now, set " + set, x.sides(set), NOT_NOW);
            Check.promise(39, "best");
            Check.due("it sinks now, set " + set, x.best(set), NOT_NOW);
        }
        Check.due("no set ahead of sinking", x.best(2), BAD_NUMBER);
        Check.promise(38, "sides");
        Check.due("no set ahead of sinking", x.sides(2), BAD_NUMBER);
        Check.due("nothing changed", x.count(2) * 10 + x.count(8), 10);
    }

    /** With a fault all stays but the tape and what fault() tells. */
    private static void faultsKeepAll() {
        Check.promise(3, "raft: all stays with a fault");
        String eight = "raft quota 2;" + "holder bears 1 weight 1;".repeat(8);
        String[] texts = {"raft quota 2;storm 1;holder bears 1 weight 1;#", "raft quota 2;storm 1;by", "raft quota 2;storm 10;",
            eight + "holder", "raft quota 2;lets:not not not not not not not 1=1;"};
        int[] kinds = {1, 2, 3, 4, 4};
        int[] places = {45, 23, 19, 205, 42};
        for (int scene = 0; scene < Scenes.ALL; scene++) {
            for (int i = 0; i < texts.length; i++) {
                RaftHold got = Scenes.make(scene);
                got.raft(0);
                Check.due("a text with a fault", Check.tell(got, texts[i]), -30 - kinds[i]);
                Check.due("its fault", got.fault(0), kinds[i]);
                Check.due("its place", got.fault(1), places[i]);
                Check.due("the tape is empty", got.count(9), 0);
                RaftHold want = Scenes.make(scene);
                want.raft(0);
                got.raft(0);
                alikeNow(scene, texts[i], got, want);
            }
        }
    }

    private static void alikeNow(int scene, String text, RaftHold got, RaftHold want) {
        Check.holds("scene " + scene + ": all stays with a fault in " + text, Scenes.look(got).equals(Scenes.look(want)));
    }
}
