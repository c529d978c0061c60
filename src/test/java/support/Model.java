import java.math.BigInteger;
import java.util.ArrayDeque;
import java.util.ArrayList;
import java.util.Deque;
import java.util.HashMap;
import java.util.List;
import java.util.Map;

/** A second, plain reading of the document, by other ways than the class's: trees, lists, brute force. */
final class Model {
    interface Node {
        int eval(Env env);
    }

    /** What the words of a law stand for. */
    record Env(int all, int storm, int bears, int weight, int who, int near, int gone, int parts) {
    }

    static final class Fault extends RuntimeException {
        final int kind;
        final int place;

        Fault(int kind, int place) {
            super(null, null, false, false);
            this.kind = kind;
            this.place = place;
        }
    }

    static final class Person {
        int bears;
        int weight;
        int votes = 1;
        boolean loose;
        int[] likes = new int[3];
    }

    static final class Told {
        int quota = 1;
        int storm;
        int lines;
        List<Person> people = new ArrayList<>();
        boolean[][] by = new boolean[8][8];
        boolean[][] foes = new boolean[8][8];
        Node lets;
        Node floats;
    }

    record Now(List<Boolean> hold, List<Integer> bears, int storm, int weeks) {
    }

    record Kept(Told told, Now now) {
    }

    private final StringBuilder tape = new StringBuilder();
    private Told told = new Told();
    private Now now = new Now(List.of(), List.of(), 0, 0);
    private Deque<Now> undo = new ArrayDeque<>();
    private int fault = 0;
    private int place = -1;
    private final long[][] trays = new long[4][];
    private final int[] sorts = new int[4];
    private final Kept[] images = new Kept[2];

    // ---- the text

    private static final class Parser {
        private final String text;
        private int kind;
        private int start;
        private int behind;
        private String token;
        private int value;

        Parser(String text) {
            this.text = text;
            next();
        }

        static final int END = 0;
        static final int WORD = 1;
        static final int NUM = 2;
        static final int SIGN = 3;
        static final int BAD = 4;

        void next() {
            int i = behind;
            while (i < text.length() && (text.charAt(i) == ' ' || text.charAt(i) == '\n')) {
                i++;
            }
            start = i;
            token = "";
            if (i >= text.length()) {
                kind = END;
                return;
            }
            String rest = text.substring(i);
            String word = lead(rest, "[a-z]+");
            String digits = lead(rest, "[0-9]+");
            if (!word.isEmpty()) {
                kind = WORD;
                token = word;
            } else if (!digits.isEmpty()) {
                kind = digits.length() <= 3 ? NUM : BAD;
                token = digits;
                value = digits.length() <= 3 ? Integer.parseInt(digits) : 0;
            } else if (";:+-*()[]=<>".indexOf(rest.charAt(0)) >= 0) {
                kind = SIGN;
                token = rest.substring(0, 1);
            } else {
                kind = BAD;
            }
            behind = i + Math.max(1, token.length());
        }

        private static String lead(String rest, String form) {
            java.util.regex.Matcher m = java.util.regex.Pattern.compile(form).matcher(rest);
            return m.lookingAt() ? m.group() : "";
        }

        Fault fault(int k) {
            return new Fault(kind == BAD ? 1 : k, start);
        }

        boolean is(String t) {
            return (kind == WORD || kind == SIGN) && token.equals(t);
        }

        void need(String t) {
            if (!is(t)) {
                throw fault(2);
            }
            next();
        }

        int num(int low, int high) {
            if (kind != NUM) {
                throw fault(2);
            }
            if (value < low || value > high) {
                throw fault(3);
            }
            int v = value;
            next();
            return v;
        }

        Told parse() {
            Told t = new Told();
            need("raft");
            need("quota");
            t.quota = num(1, 99);
            need(";");
            t.lines = 1;
            while (kind != END) {
                line(t);
                need(";");
                t.lines++;
            }
            return t;
        }

        private void line(Told t) {
            if (is("holder")) {
                holder(t);
            } else if (is("by") || is("quarrel")) {
                boolean[][] m = is("by") ? t.by : t.foes;
                next();
                int p = num(0, t.people.size() - 1);
                if (kind == NUM && value == p) {
                    throw fault(3);
                }
                int q = num(0, t.people.size() - 1);
                m[p][q] = true;
                m[q][p] = true;
            } else if (is("storm")) {
                next();
                t.storm = num(0, 9);
            } else if (is("lets")) {
                next();
                need(":");
                t.lets = truth(0, true);
            } else if (is("floats")) {
                next();
                need(":");
                t.floats = truth(0, false);
            } else {
                throw fault(2);
            }
        }

        private void holder(Told t) {
            if (t.people.size() == 8) {
                throw fault(4);
            }
            next();
            Person p = new Person();
            need("bears");
            p.bears = num(0, 9);
            need("weight");
            p.weight = num(0, 9);
            while (true) {
                if (is("loose")) {
                    next();
                    p.loose = true;
                } else if (is("votes")) {
                    next();
                    p.votes = num(0, 9);
                } else if (is("likes")) {
                    next();
                    p.likes = new int[] {num(0, 9), num(0, 9), num(0, 9)};
                } else {
                    break;
                }
            }
            t.people.add(p);
        }

        Node truth(int deep, boolean lets) {
            Node a = both(deep, lets);
            while (is("or")) {
                next();
                Node l = a;
                Node r = both(deep, lets);
                a = e -> l.eval(e) != 0 || r.eval(e) != 0 ? 1 : 0;
            }
            return a;
        }

        Node both(int deep, boolean lets) {
            Node a = unit(deep, lets);
            while (is("and")) {
                next();
                Node l = a;
                Node r = unit(deep, lets);
                a = e -> l.eval(e) != 0 && r.eval(e) != 0 ? 1 : 0;
            }
            return a;
        }

        private void deeper(int deep) {
            if (deep >= 6) {
                throw fault(4);
            }
            next();
        }

        Node unit(int deep, boolean lets) {
            if (is("not")) {
                deeper(deep);
                Node a = unit(deep + 1, lets);
                return e -> a.eval(e) == 0 ? 1 : 0;
            }
            if (is("[")) {
                deeper(deep);
                Node a = truth(deep + 1, lets);
                need("]");
                return a;
            }
            Node a = sum(deep, lets);
            String sign = token;
            if (!is("=") && !is("<") && !is(">")) {
                throw fault(2);
            }
            next();
            Node b = sum(deep, lets);
            return e -> {
                int c = Integer.compare(a.eval(e), b.eval(e));
                return (sign.equals("=") ? c == 0 : sign.equals("<") ? c < 0 : c > 0) ? 1 : 0;
            };
        }

        static int keep(long v) {
            return v > 1000000 ? 1000000 : v < -1000000 ? -1000000 : (int) v;
        }

        Node sum(int deep, boolean lets) {
            Node a = term(deep, lets);
            while (is("+") || is("-")) {
                int s = is("+") ? 1 : -1;
                next();
                Node l = a;
                Node r = term(deep, lets);
                a = e -> keep((long) l.eval(e) + (long) s * r.eval(e));
            }
            return a;
        }

        Node term(int deep, boolean lets) {
            Node a = atom(deep, lets);
            while (is("*")) {
                next();
                Node l = a;
                Node r = atom(deep, lets);
                a = e -> keep((long) l.eval(e) * r.eval(e));
            }
            return a;
        }

        Node atom(int deep, boolean lets) {
            if (kind == NUM) {
                int v = value;
                next();
                return e -> v;
            }
            if (is("(")) {
                deeper(deep);
                Node a = sum(deep + 1, lets);
                need(")");
                return a;
            }
            Node a;
            if (is("all")) {
                a = Env::all;
            } else if (is("storm")) {
                a = Env::storm;
            } else if (is("bears")) {
                a = Env::bears;
            } else if (is("weight")) {
                a = Env::weight;
            } else if (lets && is("who")) {
                a = Env::who;
            } else if (lets && is("near")) {
                a = Env::near;
            } else if (lets && is("gone")) {
                a = Env::gone;
            } else if (!lets && is("parts")) {
                a = Env::parts;
            } else {
                throw fault(2);
            }
            next();
            return a;
        }
    }

    // ---- helpers

    private int n() {
        return told.people.size();
    }

    private boolean who(int p) {
        return p >= 0 && p < n();
    }

    private boolean isSet(long set) {
        return set >= 0 && set < 1L << n();
    }

    private List<Boolean> set(int bits) {
        List<Boolean> l = new ArrayList<>();
        for (int p = 0; p < n(); p++) {
            l.add((bits & 1 << p) != 0);
        }
        return l;
    }

    private static int bits(List<Boolean> l) {
        int b = 0;
        for (int p = 0; p < l.size(); p++) {
            b += l.get(p) ? 1 << p : 0;
        }
        return b;
    }

    private static int size(List<Boolean> l) {
        int c = 0;
        for (boolean b : l) {
            c += b ? 1 : 0;
        }
        return c;
    }

    private int partsOf(List<Boolean> hold) {
        int[] root = new int[n()];
        for (int p = 0; p < n(); p++) {
            root[p] = p;
        }
        for (int k = 0; k < n(); k++) {
            for (int p = 0; p < n(); p++) {
                for (int q = 0; q < n(); q++) {
                    if (hold.get(p) && hold.get(q) && told.by[p][q]) {
                        int m = Math.min(root[p], root[q]);
                        root[p] = m;
                        root[q] = m;
                    }
                }
            }
        }
        int c = 0;
        for (int p = 0; p < n(); p++) {
            c += hold.get(p) && root[p] == p ? 1 : 0;
        }
        return c;
    }

    private int[] roots(List<Boolean> hold) {
        int[] root = new int[n()];
        for (int p = 0; p < n(); p++) {
            root[p] = p;
        }
        for (int k = 0; k < n() * n(); k++) {
            for (int p = 0; p < n(); p++) {
                for (int q = 0; q < n(); q++) {
                    if (hold.get(p) && hold.get(q) && told.by[p][q]) {
                        root[p] = root[q] = Math.min(root[p], root[q]);
                    }
                }
            }
        }
        return root;
    }

    private boolean floatsWith(List<Boolean> hold, List<Integer> bears, int storm) {
        if (n() == 0) {
            return true;
        }
        int sum = 0;
        int weights = 0;
        for (int p = 0; p < n(); p++) {
            sum += hold.get(p) ? bears.get(p) : 0;
            weights += told.people.get(p).weight;
        }
        if (told.floats == null) {
            return sum >= weights;
        }
        return told.floats.eval(new Env(size(hold), storm, sum, weights, 0, 0, 0, partsOf(hold))) != 0;
    }

    private boolean floatsSet(int set) {
        return floatsWith(set(set), now.bears, now.storm);
    }

    private boolean goes(int p, List<Boolean> hold, List<Integer> bears, int storm) {
        if (told.lets == null || !hold.get(p)) {
            return false;
        }
        int near = 0;
        int gone = 0;
        for (int q = 0; q < n(); q++) {
            if (told.by[p][q]) {
                near += hold.get(q) ? 1 : 0;
                gone += hold.get(q) ? 0 : 1;
            }
        }
        return told.lets.eval(new Env(size(hold), storm, bears.get(p), told.people.get(p).weight, p, near, gone, 0)) != 0;
    }

    private List<Boolean> week(List<Boolean> hold, List<Integer> bears, int storm) {
        List<Boolean> l = new ArrayList<>();
        for (int p = 0; p < n(); p++) {
            l.add(hold.get(p) && !goes(p, hold, bears, storm));
        }
        return l;
    }

    private List<Integer> path(int set) {
        List<Integer> l = new ArrayList<>();
        l.add(set);
        while (true) {
            int last = l.get(l.size() - 1);
            int next = bits(week(set(last), now.bears, now.storm));
            if (next == last) {
                return l;
            }
            l.add(next);
        }
    }

    private static <T> T last(List<T> l) {
        return l.get(l.size() - 1);
    }

    private boolean sinksOnPath(int set) {
        for (int s : path(set)) {
            if (!floatsSet(s)) {
                return true;
            }
        }
        return false;
    }

    private void done(Now then) {
        undo.addLast(now);
        if (undo.size() > 10) {
            undo.removeFirst();
        }
        now = then;
    }

    private static int frac(BigInteger above, BigInteger below, int what) {
        BigInteger g = above.gcd(below);
        return (what == 0 ? above : below).divide(g).intValueExact();
    }

    // ---- the raft

    int feed(int a, int b, int c, int d, int e) {
        if (tape.length() + 20 > 900) {
            return -5;
        }
        for (int v : new int[] {a, b, c, d, e}) {
            for (byte y : java.nio.ByteBuffer.allocate(4).putInt(v).array()) {
                tape.append((char) (y & 255));
            }
        }
        return tape.length();
    }

    int raft(int n) {
        if (n < 0 || n > tape.length()) {
            return -3;
        }
        String text = tape.substring(0, n);
        tape.setLength(0);
        try {
            told = new Parser(text).parse();
            fault = 0;
            place = -1;
        } catch (Fault f) {
            fault = f.kind;
            place = f.place;
            return -30 - fault;
        }
        List<Boolean> hold = new ArrayList<>();
        List<Integer> bears = new ArrayList<>();
        for (Person p : told.people) {
            hold.add(!p.loose);
            bears.add(p.bears);
        }
        now = new Now(hold, bears, told.storm, 0);
        undo.clear();
        return told.lines;
    }

    int fault(int what) {
        return what == 0 ? fault : what == 1 ? place : -1;
    }

    int holder(int p, int what) {
        if (!who(p)) {
            return -2;
        }
        Person x = told.people.get(p);
        if (what == 0) {
            return now.hold.get(p) ? 1 : 0;
        } else if (what == 1) {
            return now.bears.get(p);
        } else if (what == 2) {
            return x.weight;
        } else if (what == 3) {
            return x.votes;
        } else if (what == 4 || what == 5) {
            int b = 0;
            for (int q = 0; q < 8; q++) {
                b |= (what == 4 ? told.by : told.foes)[p][q] ? 1 << q : 0;
            }
            return b;
        } else if (what >= 10 && what <= 12) {
            return x.likes[what - 10];
        }
        return -2;
    }

    int lets(int p) {
        return !who(p) ? -2 : goes(p, now.hold, now.bears, now.storm) ? 1 : 0;
    }

    int floats(int set) {
        return !isSet(set) ? -3 : floatsSet(set) ? 1 : 0;
    }

    int pieces(int set) {
        if (!isSet(set)) {
            return -3;
        }
        int[] root = roots(set(set));
        int c = 0;
        for (int p = 0; p < n(); p++) {
            c += (set & 1 << p) != 0 && root[p] == p ? 1 : 0;
        }
        return c;
    }

    // ---- deeds

    private int why;

    /** Null if it can't be, with why. */
    private Now deed(Now s, long v) {
        why = 0;
        if (v == 0) {
            return new Now(week(s.hold, s.bears, s.storm), s.bears, s.storm, s.weeks + 1);
        }
        if (v >= 10 && v <= 29) {
            int p = (int) (v % 10);
            boolean go = v < 20;
            if (!who(p)) {
                why = 1;
                return null;
            }
            if (s.hold.get(p) != go) {
                why = 2;
                return null;
            }
            List<Boolean> h = new ArrayList<>(s.hold);
            h.set(p, !go);
            return new Now(h, s.bears, s.storm, s.weeks);
        }
        if (v >= 30 && v <= 39) {
            return new Now(s.hold, s.bears, (int) v - 30, s.weeks);
        }
        if (v >= 100 && v <= 199 && who((int) (v / 10 % 10))) {
            List<Integer> b = new ArrayList<>(s.bears);
            b.set((int) (v / 10 % 10), (int) (v % 10));
            return new Now(s.hold, b, s.storm, s.weeks);
        }
        why = 1;
        return null;
    }

    int weeks(int n) {
        if (n < 1 || n > 99) {
            return -3;
        }
        Now s = now;
        for (int i = 0; i < n; i++) {
            s = deed(s, 0);
        }
        done(s);
        return bits(now.hold);
    }

    private int change(int p, int base) {
        if (!who(p)) {
            return -11;
        }
        Now s = deed(now, base + p);
        if (s == null) {
            return -10 - why;
        }
        done(s);
        return floatsWith(now.hold, now.bears, now.storm) ? 1 : 0;
    }

    int go(int p) {
        return change(p, 10);
    }

    int take(int p) {
        return change(p, 20);
    }

    int mend(int p, int n) {
        if (!who(p) || n < 0 || n > 9) {
            return -11;
        }
        int was = now.bears.get(p);
        done(deed(now, 100 + 10 * p + n));
        return was;
    }

    int storm(int n) {
        if (n < 0 || n > 9) {
            return -11;
        }
        int was = now.storm;
        done(deed(now, 30 + n));
        return was;
    }

    int undo(int n) {
        if (n < 1 || n > 10 || n > undo.size()) {
            return -3;
        }
        for (int i = 0; i < n; i++) {
            now = undo.removeLast();
        }
        return undo.size();
    }

    int judge(int tray, int what) {
        if (tray < 0 || tray > 3 || what < 0 || what > 3) {
            return -2;
        }
        if (trays[tray] == null) {
            return -6;
        }
        Now s = now;
        int at = -1;
        int whyNot = 0;
        for (int i = 0; i < trays[tray].length; i++) {
            Now then = deed(s, trays[tray][i]);
            if (then == null) {
                at = i;
                whyNot = why;
                break;
            }
            s = then;
        }
        return what == 0 ? at : what == 1 ? whyNot : what == 2 ? bits(s.hold) : floatsWith(s.hold, s.bears, s.storm) ? 1 : 0;
    }

    int perform(int tray) {
        if (tray < 0 || tray > 3) {
            return -2;
        }
        if (trays[tray] == null) {
            return -6;
        }
        Now s = now;
        int c = 0;
        for (long v : trays[tray]) {
            Now then = deed(s, v);
            if (then == null) {
                break;
            }
            s = then;
            c++;
        }
        if (c > 0) {
            done(s);
        }
        return c;
    }

    private int x;

    private int draw(int mod) {
        x = (int) (1103515245L * x + 12345L);
        return (int) ((x & 0xffffffffL) / 65536 % mod);
    }

    int year(int seed, int times) {
        if (times < 1 || times > 40) {
            return -3;
        }
        x = seed;
        Now s = now;
        int c = 0;
        for (int i = 0; i < times; i++) {
            int k = draw(6);
            long v = 0;
            if (k == 2) {
                v = 10 + draw(8);
            } else if (k == 3) {
                v = 20 + draw(8);
            } else if (k == 4) {
                v = 30 + draw(10);
            } else if (k == 5) {
                v = 100 + 10 * draw(8);
                v += draw(10);
            }
            Now then = deed(s, v);
            if (then != null) {
                s = then;
                c++;
            }
        }
        if (c > 0) {
            done(s);
        }
        return c;
    }

    // ---- settling

    int settles(int set, int what) {
        if (what != 0 && what != 1) {
            return -2;
        }
        if (!isSet(set)) {
            return -3;
        }
        List<Integer> path = path(set);
        return what == 0 ? last(path) : path.size() - 1;
    }

    int when(int p) {
        if (!who(p)) {
            return -2;
        }
        List<Integer> path = path(bits(now.hold));
        for (int i = 1; i < path.size(); i++) {
            if ((path.get(i - 1) & 1 << p) != 0 && (path.get(i) & 1 << p) == 0) {
                return i;
            }
        }
        return -1;
    }

    int sinks() {
        List<Integer> path = path(bits(now.hold));
        for (int i = 0; i < path.size(); i++) {
            if (!floatsSet(path.get(i))) {
                return i;
            }
        }
        return -1;
    }

    int steady() {
        int c = 0;
        for (int s = 0; s < 1 << n(); s++) {
            c += path(s).size() == 1 ? 1 : 0;
        }
        return c;
    }

    // ---- fewest

    private static boolean two(int what) {
        return what == 0 || what == 1;
    }

    /** The first of the sets, the fewest first, then the least. */
    private static int pick(List<Integer> sets, int what) {
        int best = -1;
        for (int size = 0; size <= 8 && best < 0; size++) {
            for (int s : sets) {
                if (Integer.bitCount(s) == size && (best < 0 || s < best)) {
                    best = s;
                }
            }
        }
        return best < 0 ? -1 : what == 0 ? Integer.bitCount(best) : best;
    }

    int starts(int kind, int what) {
        if (!two(kind) || !two(what)) {
            return -2;
        }
        int hold = bits(now.hold);
        List<Integer> good = new ArrayList<>();
        for (int s = 255; s >= 0; s--) {
            if ((s | hold) == hold && (kind == 0 ? sinksOnPath(hold - s) : last(path(hold - s)) == 0)) {
                good.add(s);
            }
        }
        return pick(good, what);
    }

    int spark(int what) {
        if (!two(what)) {
            return -2;
        }
        int best = -1;
        int left = 99;
        for (int p = n() - 1; p >= 0; p--) {
            if (now.hold.get(p)) {
                int c = Integer.bitCount(last(path(bits(now.hold) - (1 << p))));
                if (c <= left) {
                    left = c;
                    best = p;
                }
            }
        }
        return best < 0 ? -1 : what == 0 ? best : left;
    }

    int cut(int p, int q, int what) {
        if (!who(p) || !who(q) || p == q || !two(what)) {
            return -2;
        }
        if (!now.hold.get(p) || !now.hold.get(q)) {
            return -5;
        }
        int hold = bits(now.hold);
        List<Integer> good = new ArrayList<>();
        for (int s = 0; s < 256; s++) {
            if ((s | hold) == hold && (s & (1 << p | 1 << q)) == 0) {
                int[] root = roots(set(hold - s));
                if (root[p] != root[q]) {
                    good.add(s);
                }
            }
        }
        return pick(good, what);
    }

    int least(int what) {
        if (!two(what)) {
            return -2;
        }
        List<Integer> good = new ArrayList<>();
        for (int s = 0; s < 1 << n(); s++) {
            if (floatsSet(s)) {
                good.add(s);
            }
        }
        return pick(good, what);
    }

    int needed() {
        int hold = bits(now.hold);
        int c = 0;
        for (int p = 0; p < n(); p++) {
            if (now.hold.get(p) && floatsSet(hold) && !floatsSet(hold - (1 << p))) {
                c |= 1 << p;
            }
        }
        return c;
    }

    // ---- votes

    private List<int[]> orders() {
        List<int[]> l = new ArrayList<>();
        order(new int[n()], 0, 0, l);
        return l;
    }

    private void order(int[] so, int k, int used, List<int[]> l) {
        if (k == so.length) {
            l.add(so.clone());
            return;
        }
        for (int p = 0; p < so.length; p++) {
            if ((used & 1 << p) == 0) {
                so[k] = p;
                order(so, k + 1, used | 1 << p, l);
            }
        }
    }

    private int votes(int set) {
        int c = 0;
        for (int p = 0; p < n(); p++) {
            c += (set & 1 << p) != 0 ? told.people.get(p).votes : 0;
        }
        return c;
    }

    private int decides(int p, List<int[]> orders) {
        int c = 0;
        for (int[] o : orders) {
            int came = 0;
            for (int q : o) {
                came += told.people.get(q).votes;
                if (came >= told.quota) {
                    c += q == p ? 1 : 0;
                    break;
                }
            }
        }
        return c;
    }

    int power(int p, int what) {
        if (!who(p) || !two(what)) {
            return -2;
        }
        List<int[]> orders = orders();
        return frac(BigInteger.valueOf(decides(p, orders)), BigInteger.valueOf(orders.size()), what);
    }

    int dummies() {
        List<int[]> orders = orders();
        int c = 0;
        for (int p = 0; p < n(); p++) {
            c |= decides(p, orders) == 0 ? 1 << p : 0;
        }
        return c;
    }

    int swings(int p) {
        if (!who(p)) {
            return -2;
        }
        int c = 0;
        for (int s = 0; s < 1 << n(); s++) {
            if ((s & 1 << p) == 0 && votes(s) < told.quota && votes(s) + told.people.get(p).votes >= told.quota) {
                c++;
            }
        }
        return c;
    }

    int winning(int what) {
        if (!two(what)) {
            return -2;
        }
        int c = 0;
        int small = -1;
        for (int s = 0; s < 1 << n(); s++) {
            boolean good = votes(s) >= told.quota;
            for (int p = 0; p < n(); p++) {
                good &= (s & 1 << p) == 0 || votes(s) - told.people.get(p).votes < told.quota;
            }
            if (good) {
                c++;
                small = small < 0 || Integer.bitCount(s) < small ? Integer.bitCount(s) : small;
            }
        }
        return what == 0 ? c : small;
    }

    int beats(int i, int j) {
        if (i < 0 || i > 2 || j < 0 || j > 2) {
            return -2;
        }
        int c = 0;
        for (Person p : told.people) {
            c += p.votes * Integer.signum(p.likes[i] - p.likes[j]);
        }
        return Integer.signum(c);
    }

    int island(int what) {
        if (!two(what)) {
            return -2;
        }
        int[] won = new int[3];
        int[] lost = new int[3];
        for (int i = 0; i < 3; i++) {
            for (int j = 0; j < 3; j++) {
                won[i] += beats(i, j) == 1 ? 1 : 0;
                lost[i] += beats(i, j) == -1 ? 1 : 0;
            }
        }
        if (what == 1) {
            boolean round = true;
            for (int i = 0; i < 3; i++) {
                round &= won[i] == 1 && lost[i] == 1;
            }
            return round ? 1 : 0;
        }
        for (int i = 0; i < 3; i++) {
            if (won[i] == 2) {
                return i;
            }
        }
        return -1;
    }

    // ---- places

    int placing(int what) {
        if (what != 0 && !who(what - 10)) {
            return -2;
        }
        int least = 99;
        int[] best = null;
        for (int[] o : orders()) {
            int c = 0;
            for (int p = 0; p < n(); p++) {
                for (int q = 0; q < p; q++) {
                    c += told.foes[p][q] && told.by[o[p]][o[q]] ? 1 : 0;
                }
            }
            if (c < least) {
                least = c;
                best = o;
            }
        }
        return what == 0 ? least : best[what - 10];
    }

    int quarrels() {
        int c = 0;
        for (int p = 0; p < n(); p++) {
            for (int q = 0; q < p; q++) {
                c += told.foes[p][q] && told.by[p][q] ? 1 : 0;
            }
        }
        return c;
    }

    // ---- tested

    private int refuse(int tray, boolean there) {
        if (tray < 0 || tray > 3 || !there) {
            return -2;
        }
        if (trays[tray] == null) {
            return -6;
        }
        if (trays[tray].length == 0 || trays[tray].length > 8) {
            return -4;
        }
        for (long v : trays[tray]) {
            if (v < 0 || !isSet(v / 2)) {
                return -3;
            }
        }
        return 0;
    }

    private boolean fits(int tray, List<Integer> bears, int storm) {
        for (long v : trays[tray]) {
            if (floatsWith(set((int) (v / 2)), bears, storm) != (v % 2 == 1)) {
                return false;
            }
        }
        return true;
    }

    private List<Integer> bearing(int p, int b) {
        List<Integer> l = new ArrayList<>(now.bears);
        l.set(p, b);
        return l;
    }

    int bearings(int tray, int p) {
        int r = refuse(tray, who(p));
        if (r != 0) {
            return r;
        }
        int c = 0;
        for (int b = 0; b < 10; b++) {
            c |= fits(tray, bearing(p, b), now.storm) ? 1 << b : 0;
        }
        return c;
    }

    int storms(int tray) {
        int r = refuse(tray, true);
        if (r != 0) {
            return r;
        }
        int c = 0;
        for (int s = 0; s < 10; s++) {
            c |= fits(tray, now.bears, s) ? 1 << s : 0;
        }
        return c;
    }

    int attempt(int tray, int p) {
        int can = bearings(tray, p);
        if (can <= 0) {
            return can == 0 ? -1 : can;
        }
        int best = -1;
        int least = 99;
        for (int s = 0; s < 1 << n(); s++) {
            int yes = 0;
            int no = 0;
            for (int b = 0; b < 10; b++) {
                if ((can & 1 << b) != 0) {
                    if (floatsWith(set(s), bearing(p, b), now.storm)) {
                        yes++;
                    } else {
                        no++;
                    }
                }
            }
            if (Math.max(yes, no) < least) {
                least = Math.max(yes, no);
                best = s;
            }
        }
        return best;
    }

    // ---- by turns

    /** What the side that is on gets: 1 the other loses, -1 it loses itself. */
    private int play(int hold, int mine, int theirs, Map<String, Integer> known) {
        if (hold == 0) {
            return 0;
        }
        String key = hold + "/" + mine;
        Integer k = known.get(key);
        if (k != null) {
            return k;
        }
        int best = -2;
        if ((hold & mine) == 0) {
            best = sinksOnPath(hold) ? -1 : -play(last(path(hold)), theirs, mine, known);
        }
        for (int p = 0; p < n(); p++) {
            if ((hold & mine & 1 << p) != 0) {
                int left = hold - (1 << p);
                best = Math.max(best, sinksOnPath(left) ? -1 : -play(last(path(left)), theirs, mine, known));
            }
        }
        known.put(key, best);
        return best;
    }

    int sides(int set) {
        if (!isSet(set)) {
            return -3;
        }
        if (!floatsSet(bits(now.hold))) {
            return -5;
        }
        return play(bits(now.hold), set, (1 << n()) - 1 - set, new HashMap<>());
    }

    int best(int set) {
        if (!isSet(set)) {
            return -3;
        }
        int hold = bits(now.hold);
        if (!floatsSet(hold)) {
            return -5;
        }
        Map<String, Integer> known = new HashMap<>();
        int others = (1 << n()) - 1 - set;
        int due = play(hold, set, others, known);
        for (int p = 0; p < n(); p++) {
            if ((hold & set & 1 << p) != 0) {
                int left = hold - (1 << p);
                int got = sinksOnPath(left) ? -1 : -play(last(path(left)), others, set, known);
                if (got == due) {
                    return p;
                }
            }
        }
        return -1;
    }

    // ---- chances

    private BigInteger lots(int hold, int weeks, boolean mean, Map<Integer, BigInteger> known) {
        if (weeks == 0) {
            return BigInteger.valueOf(mean ? Integer.bitCount(hold) : floatsSet(hold) ? 1 : 0);
        }
        int key = weeks * 1000 + hold;
        BigInteger k = known.get(key);
        if (k == null) {
            k = BigInteger.ZERO;
            int then = bits(week(set(hold), now.bears, now.storm));
            for (int lot = 0; lot < 10; lot++) {
                k = k.add(lots(then & ~(1 << lot), weeks - 1, mean, known));
            }
            known.put(key, k);
        }
        return k;
    }

    private int lot(int n, int what, boolean mean) {
        if (!two(what)) {
            return -2;
        }
        if (n < 0 || n > 8) {
            return -3;
        }
        return frac(lots(bits(now.hold), n, mean, new HashMap<>()), BigInteger.TEN.pow(n), what);
    }

    int chance(int n, int what) {
        return lot(n, what, false);
    }

    int mean(int n, int what) {
        return lot(n, what, true);
    }

    // ---- trays, images

    int numbers(int tray, int sort, int n) {
        if (tray < 0 || tray > 3 || sort < 0 || sort > 3) {
            return -2;
        }
        if (n < 0 || n > 40) {
            return -3;
        }
        trays[tray] = new long[n];
        sorts[tray] = sort;
        return 0;
    }

    private void put(int tray, int i, long v) {
        int shift = 64 - (8 << sorts[tray]);
        trays[tray][i] = v << shift >> shift;
    }

    long write(int tray, int i, long v) {
        if (tray < 0 || tray > 3) {
            return -2;
        }
        if (trays[tray] == null) {
            return -6;
        }
        if (i < 0 || i >= trays[tray].length) {
            return -7;
        }
        put(tray, i, v);
        return trays[tray][i];
    }

    int lists(int tray) {
        if (tray < 0 || tray > 3) {
            return -2;
        }
        if (trays[tray] == null) {
            return -6;
        }
        List<Boolean> hold = now.hold;
        for (int i = 0; i < trays[tray].length; i++) {
            hold = week(hold, now.bears, now.storm);
            put(tray, i, bits(hold));
        }
        return trays[tray].length;
    }

    int image(int i) {
        if (i != 0 && i != 1) {
            return -2;
        }
        images[i] = new Kept(told, now);
        return 0;
    }

    int restore(int i) {
        if (i != 0 && i != 1) {
            return -2;
        }
        if (images[i] == null) {
            return -5;
        }
        told = images[i].told;
        now = images[i].now;
        undo.clear();
        return 0;
    }

    int count(int what) {
        int bear = 0;
        int weight = 0;
        for (int p = 0; p < n(); p++) {
            bear += now.hold.get(p) ? now.bears.get(p) : 0;
            weight += told.people.get(p).weight;
        }
        int[] all = {n(), told.quota, bits(now.hold), bear, weight,
            floatsWith(now.hold, now.bears, now.storm) ? 1 : 0, now.storm, now.weeks, undo.size(), tape.length(), told.lines};
        return what >= 0 && what < all.length ? all[what] : -1;
    }
}
