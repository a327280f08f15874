import java.util.ArrayList;
import java.util.List;

/**
 * The document once more, as slow and plain as can be, so that the program's answers
 * can be set against it: kinds are classes, texts are trees, every run goes to its end.
 */
final class PlainModel {
    static final int NONE = -1, BAD = -2, STATE = -3, FULL = -4;

    // ---- kinds

    static class Stair {
        final int width;
        Stair(int width) { this.width = width; }
        int kind() { return 0; }
        int rawHolds() { return 4 * width; }
        int rawPasses(int t) { return width; }
        final int holds() { return Math.max(1, rawHolds()); }
        final int passes(int t) { return Math.max(0, rawPasses(t)); }
        static Stair of(int kind, int width) {
            switch (kind) {
                case 0: return new Stair(width);
                case 1: return new Turn(width);
                case 2: return new Door(width);
                case 3: return new Sharp(width);
                case 4: return new Gate(width);
                default: return new Laced(width);
            }
        }
        static Class<?> classOf(int kind) { return of(kind, 1).getClass(); }
    }
    static class Turn extends Stair {
        Turn(int width) { super(width); }
        int kind() { return 1; }
        int rawHolds() { return super.rawHolds() / 2; }
        int rawPasses(int t) { return super.rawPasses(t) - 1; }
    }
    static class Door extends Stair {
        Door(int width) { super(width); }
        int kind() { return 2; }
        int rawHolds() { return super.rawHolds() + 2; }
    }
    static class Sharp extends Turn {
        Sharp(int width) { super(width); }
        int kind() { return 3; }
        int rawHolds() { return super.rawHolds() - 1; }
        int rawPasses(int t) { return Math.max(1, super.rawPasses(t)); }
    }
    static class Gate extends Door {
        Gate(int width) { super(width); }
        int kind() { return 4; }
        int rawHolds() { return 2 * super.rawHolds(); }
        int rawPasses(int t) { return t % 2 == 1 ? 0 : super.rawPasses(t); }
    }
    static class Laced extends Turn {
        Laced(int width) { super(width); }
        int kind() { return 5; }
        int rawPasses(int t) { return t % (width + 2) == 0 ? 0 : super.rawPasses(t); }
    }

    // ---- texts

    static final class Sight {
        int cell, many, tick, ahead, wide, left;
    }
    interface Expr {
        int of(Sight s);
    }
    static final class Fault extends Exception {
        private static final long serialVersionUID = 1;
        final int place;
        Fault(int place) { this.place = place; }
    }
    static final class Token {
        final int place;
        final String text;
        Token(int place, String text) { this.place = place; this.text = text; }
    }

    static final class Parser {
        private final List<Token> tokens = new ArrayList<>();
        private int next = 0;
        private int open = 0;

        Parser(List<Integer> tape) {
            int i = 0;
            while (i < tape.size()) {
                char c = (char) (int) tape.get(i);
                int from = i;
                StringBuilder token = new StringBuilder();
                if (c == ' ' || c == '\n') {
                    i++;
                    continue;
                }
                String kind = c >= 'a' && c <= 'z' ? "abcdefghijklmnopqrstuvwxyz" : c >= '0' && c <= '9' ? "0123456789" : "";
                do {
                    token.append((char) (int) tape.get(i++));
                } while (i < tape.size() && kind.indexOf((char) (int) tape.get(i)) >= 0);
                tokens.add(new Token(from, token.toString()));
            }
            tokens.add(new Token(tape.size(), ""));
        }

        Expr[] text() throws Fault {
            Expr[] three = new Expr[3];
            String[] keys = {"slows", "comes", "minds"};
            for (int i = 0; i < 3; i++) {
                want(keys[i]);
                three[i] = e();
                want(";");
            }
            want("");
            return three;
        }

        private String see() { return tokens.get(next).text; }
        private Fault fault() { return new Fault(tokens.get(next).place); }
        private void want(String text) throws Fault {
            if (!see().equals(text)) throw fault();
            next++;
        }
        private boolean has(String text) {
            if (!see().equals(text)) return false;
            next++;
            return true;
        }
        private void opens() throws Fault {
            if (open == 5) throw fault();
            open++;
        }

        private Expr e() throws Fault {
            Expr a = and();
            while (has("or")) {
                Expr l = a, r = and();
                a = s -> l.of(s) != 0 | r.of(s) != 0 ? 1 : 0;
            }
            return a;
        }
        private Expr and() throws Fault {
            Expr a = not();
            while (has("and")) {
                Expr l = a, r = not();
                a = s -> l.of(s) != 0 & r.of(s) != 0 ? 1 : 0;
            }
            return a;
        }
        private Expr not() throws Fault {
            if (see().equals("not")) {
                opens();
                next++;
                Expr a = not();
                open--;
                return s -> a.of(s) != 0 ? 0 : 1;
            }
            Expr a = sum();
            if (has("<")) {
                Expr b = sum();
                return s -> a.of(s) < b.of(s) ? 1 : 0;
            }
            if (has("=")) {
                Expr b = sum();
                return s -> a.of(s) == b.of(s) ? 1 : 0;
            }
            return a;
        }
        private Expr sum() throws Fault {
            Expr a = term();
            while (see().equals("+") || see().equals("-")) {
                int sign = tokens.get(next++).text.equals("+") ? 1 : -1;
                Expr l = a, r = term();
                a = s -> l.of(s) + sign * r.of(s);
            }
            return a;
        }
        private Expr term() throws Fault {
            Expr a = one();
            while (has("*")) {
                Expr l = a, r = one();
                a = s -> l.of(s) * r.of(s);
            }
            return a;
        }
        private Expr one() throws Fault {
            String t = see();
            if (t.equals("-") || t.equals("(")) {
                opens();
                next++;
                Expr a = t.equals("-") ? one() : e();
                if (t.equals("(")) want(")");
                open--;
                return t.equals("-") ? s -> -a.of(s) : a;
            }
            Expr known = t.matches("[0-9]{1,4}") ? number(Integer.parseInt(t)) : name(t);
            if (known == null) throw fault();
            next++;
            return known;
        }
        private static Expr number(int n) { return s -> n; }
        private static Expr name(String t) {
            switch (t) {
                case "cell": return s -> s.cell;
                case "many": return s -> s.many;
                case "tick": return s -> s.tick;
                case "ahead": return s -> s.ahead;
                case "wide": return s -> s.wide;
                case "left": return s -> s.left;
                default: return null;
            }
        }
    }

    // ---- the world

    static final class World {
        Stair[] steps = new Stair[10];
        int[] on = new int[10];
        List<int[]> classes = new ArrayList<>(); // size, floor, bell, every, in
        int tick, out, rule;

        World() {
            for (int s = 0; s < 10; s++) steps[s] = new Stair(2);
        }
        World copy() {
            World w = new World();
            w.steps = steps.clone();
            w.on = on.clone();
            for (int[] c : classes) w.classes.add(c.clone());
            w.tick = tick;
            w.out = out;
            w.rule = rule;
            return w;
        }
        int in() { int n = 0; for (int[] c : classes) n += c[4]; return n; }
        int onAll() { int n = 0; for (int o : on) n += o; return n; }
        boolean done() { return in() + onAll() == 0; }
    }

    static final class Result {
        int ends, stood, minded, most;
        int[] stoodOn = new int[10];
    }

    World w = new World();
    World image = null;
    final List<Expr[]> texts = new ArrayList<>();
    List<Integer> tape = new ArrayList<>();
    final Object[] sheets = new Object[4];

    PlainModel() {
        for (char c : "slows 7 < many ; comes 9 ; minds 1 ;".toCharArray()) feed(c);
        text();
    }

    private int ask(World v, int which, int step, int left, int bound) {
        Sight s = new Sight();
        s.cell = step;
        s.many = v.on[step];
        s.tick = v.tick;
        s.ahead = step == 9 ? 0 : v.on[step + 1];
        s.wide = v.steps[step].width;
        s.left = left;
        int value = texts.get(v.rule)[which].of(s);
        return value < 0 ? 0 : value > bound ? bound : value;
    }

    private void pass(World v, int shut, Result r) {
        int[] began = v.on.clone();
        int[] left = new int[10];
        for (int s = 9; s >= 0; s--) {
            int most = Math.max(0, v.steps[s].passes(v.tick) - ask(v, 0, s, v.in(), 9));
            int room = s == 9 ? Integer.MAX_VALUE : v.steps[s + 1].holds() - v.on[s + 1];
            left[s] = s == shut ? 0 : Math.min(v.on[s], Math.min(most, room));
            v.on[s] -= left[s];
            if (s == 9) v.out += left[s]; else v.on[s + 1] += left[s];
        }
        for (int[] c : v.classes) {
            if (c[2] > v.tick) continue;
            int f = c[1];
            int n = Math.min(Math.min(c[4], c[3]), Math.min(ask(v, 1, f, c[4], 9), v.steps[f].holds() - v.on[f]));
            c[4] -= n;
            v.on[f] += n;
        }
        for (int s = 0; s < 10; s++) {
            int stand = began[s] - left[s];
            r.stood += stand;
            r.stoodOn[s] += stand;
            r.minded += stand * ask(v, 2, s, v.in(), 99);
            r.most = Math.max(r.most, v.on[s]);
        }
        v.tick = Math.min(999, v.tick + 1);
    }

    private Result runOf(World v) {
        Result r = new Result();
        while (r.ends < 400 && !v.done()) {
            pass(v, -1, r);
            r.ends++;
        }
        return r;
    }

    // ---- the calls

    private static boolean out(int v, int a, int b) { return v < a || v > b; }

    int step(int step, int kind, int width) {
        if (out(step, 0, 9) || out(kind, 0, 5) || out(width, 1, 9)) return BAD;
        Stair s = Stair.of(kind, width);
        if (s.holds() < w.on[step]) return STATE;
        int was = w.steps[step].kind();
        w.steps[step] = s;
        return was;
    }
    int come(int size, int floor, int what) {
        if (out(size, 1, 60) || out(floor, 0, 9) || out(what, 0, 1999) || what % 10 == 0) return BAD;
        if (w.classes.size() == 5) return FULL;
        w.classes.add(new int[] {size, floor, what / 10, what % 10, size});
        return w.classes.size() - 1;
    }
    int set(int what, int of, int v) {
        if (out(what, 0, 2) || out(of, 0, w.classes.size() - 1)) return BAD;
        if (what == 0 && out(v, 0, 199) || what == 1 && out(v, 1, 9) || what == 2 && out(v, 0, 9)) return BAD;
        int[] c = w.classes.get(of);
        int i = what == 0 ? 2 : what == 1 ? 3 : 1;
        int was = c[i];
        c[i] = v;
        return was;
    }
    int told(int of, int what) {
        if (out(what, 0, 9) || out(of, 0, what < 5 ? 9 : w.classes.size() - 1)) return BAD;
        if (what >= 5) return w.classes.get(of)[what - 5];
        Stair s = w.steps[of];
        return new int[] {s.kind(), s.width, s.holds(), s.passes(w.tick), w.on[of]}[what];
    }
    int feed(int letter) {
        if (out(letter, 0, 255)) return BAD;
        if (tape.size() == 160) return FULL;
        tape.add(letter);
        return tape.size();
    }
    int text() {
        if (texts.size() == 6) return FULL;
        try {
            texts.add(new Parser(tape).text());
            return texts.size() - 1;
        } catch (Fault f) {
            return -100 - f.place;
        } finally {
            tape = new ArrayList<>();
        }
    }
    int force(int text) {
        if (out(text, 0, texts.size() - 1)) return BAD;
        int was = w.rule;
        w.rule = text;
        return was;
    }
    int tick() {
        pass(w, -1, new Result());
        return w.out;
    }
    int run(int what) {
        if (out(what, 0, 3)) return BAD;
        Result r = runOf(w.copy());
        return new int[] {r.ends, r.stood, r.minded, r.most}[what];
    }
    int on(int step, int n) {
        if (out(step, 0, 9) || out(n, 0, 400)) return BAD;
        World v = w.copy();
        for (int i = 0; i < n; i++) pass(v, -1, new Result());
        return v.on[step];
    }
    int holdsUp() {
        Result r = runOf(w.copy());
        int best = NONE;
        for (int s = 0; s < 10; s++) {
            if (r.stoodOn[s] > 0 && (best == NONE || r.stoodOn[s] >= r.stoodOn[best])) best = s;
        }
        return best;
    }
    int widen() {
        int now = run(0);
        int[] ends = new int[10];
        int least = now;
        for (int s = 0; s < 10; s++) {
            World v = w.copy();
            v.steps[s] = Stair.of(v.steps[s].kind(), Math.min(9, v.steps[s].width + 1));
            ends[s] = runOf(v).ends;
            least = Math.min(least, ends[s]);
        }
        for (int s = 0; s < 10; s++) if (ends[s] == least && least < now) return s;
        return NONE;
    }
    int later() {
        int least = run(1);
        int best = NONE;
        for (int c = 0; c < w.classes.size(); c++) {
            World v = w.copy();
            v.classes.get(c)[2] = Math.min(199, v.classes.get(c)[2] + 20);
            int stood = runOf(v).stood;
            if (stood < least) {
                least = stood;
                best = c;
            }
        }
        return best;
    }
    int apart(int what) {
        if (out(what, 0, 1)) return BAD;
        int best = NONE;
        int least = Integer.MAX_VALUE;
        for (int d = 0; d <= 30; d++) {
            World v = w.copy();
            for (int c = 0; c < v.classes.size(); c++) v.classes.get(c)[2] = Math.min(199, c * d);
            Result r = runOf(v);
            if (what == 0 && r.stood == 0) return d;
            if (what == 1 && r.ends < least) {
                least = r.ends;
                best = d;
            }
        }
        return best;
    }
    int order(int of) {
        if (out(of, -1, w.classes.size() - 1)) return BAD;
        List<int[]> rows = new ArrayList<>();
        rows(new int[w.classes.size()], 0, rows);
        int[] best = null;
        Result least = null;
        for (int[] row : rows) {
            World v = w.copy();
            for (int c = 0; c < row.length; c++) v.classes.get(c)[2] = w.classes.get(row[c])[2];
            Result r = runOf(v);
            if (least == null || r.ends < least.ends || r.ends == least.ends && r.stood < least.stood) {
                least = r;
                best = row;
            }
        }
        return of == NONE ? least.ends : best[of];
    }
    private static void rows(int[] row, int n, List<int[]> into) {
        if (n == row.length) {
            into.add(row.clone());
            return;
        }
        for (int v = 0; v < row.length; v++) {
            boolean free = true;
            for (int i = 0; i < n; i++) free &= row[i] != v;
            if (free) {
                row[n] = v;
                rows(row, n + 1, into);
            }
        }
    }
    int shut(int step, int k) {
        if (out(step, 0, 9) || out(k, 0, 100)) return BAD;
        World v = w.copy();
        int n = 0;
        for (; n < 400 && !v.done(); n++) pass(v, n < k ? step : -1, new Result());
        return n;
    }
    int drill() {
        World v = w.copy();
        for (int[] c : v.classes) c[2] = v.tick;
        return runOf(v).ends;
    }
    int judge(int step, int sheet) {
        if (out(step, 0, 9) || out(sheet, 0, 3)) return BAD;
        if (sheets[sheet] == null) return -11;
        World v = w.copy();
        for (int i = 0; i < java.lang.reflect.Array.getLength(sheets[sheet]); i++) {
            pass(v, -1, new Result());
            if (java.lang.reflect.Array.getInt(sheets[sheet], i) != v.on[step]) return i;
        }
        return NONE;
    }
    int look(int step, int n) {
        if (out(step, 0, 9) || out(n, 0, 400)) return BAD;
        World v = w.copy();
        int full = 0;
        for (int i = 0; i < n; i++) {
            pass(v, -1, new Result());
            if (v.on[step] == v.steps[step].holds()) full++;
        }
        return full;
    }
    int drawn(int seed) {
        World v = w.copy();
        int z = seed;
        int n = 0;
        for (; n < 400 && !v.done(); n++) {
            z = z * 1103515245 + 12345;
            pass(v, (z >>> 8) % 5 == 0 ? (z >>> 12) % 10 : -1, new Result());
        }
        return n;
    }
    int image() {
        image = w.copy();
        return w.tick;
    }
    int back() {
        if (image == null) return STATE;
        w = image.copy();
        return w.tick;
    }
    int count(int what) {
        if (out(what, 0, 7)) return BAD;
        return new int[] {w.classes.size(), w.tick, w.out, w.onAll(), w.in(), texts.size(), tape.size(), w.rule}[what];
    }

    private static final Class<?>[] SORTS = {byte[].class, short[].class, int[].class};

    int sheet(int sheet, int sort, int n) {
        if (out(sheet, 0, 3) || out(sort, -1, 2)) return BAD;
        if (sort == -1) {
            sheets[sheet] = null;
            return 1;
        }
        if (n > 40) return BAD;
        try {
            sheets[sheet] = java.lang.reflect.Array.newInstance(SORTS[sort].getComponentType(), n);
            return 1;
        } catch (NegativeArraySizeException e) {
            return -14;
        }
    }
    int cell(int sheet, int i, int v) {
        if (out(sheet, 0, 3)) return BAD;
        try {
            Object o = sheets[sheet];
            if (o instanceof byte[]) ((byte[]) o)[i] = (byte) v;
            else if (o instanceof short[]) ((short[]) o)[i] = (short) v;
            else ((int[]) o)[i] = v;
            return 1;
        } catch (NullPointerException e) {
            return -11;
        } catch (ArrayIndexOutOfBoundsException e) {
            return -12;
        }
    }
    int copy(int sheet, int i, int other, int j, int n) {
        if (out(sheet, 0, 3) || out(other, 0, 3)) return BAD;
        try {
            System.arraycopy(sheets[sheet], i, sheets[other], j, n);
            return n;
        } catch (NullPointerException e) {
            return -11;
        } catch (ArrayStoreException e) {
            return -13;
        } catch (IndexOutOfBoundsException e) {
            return -12;
        }
    }
    int classes(int sheet, int sort, int from, int n) {
        if (out(sheet, 0, 3) || out(sort, 0, 2) || out(n, 0, 5)) return BAD;
        try {
            Object o = SORTS[sort].cast(sheets[sheet]);
            java.lang.reflect.Array.getLength(o);
            int came = 0;
            for (int k = 0; k < n; k++) {
                int[] three = new int[3];
                for (int m = 0; m < 3; m++) three[m] = java.lang.reflect.Array.getInt(o, from + 3 * k + m);
                if (come(three[0], three[1], three[2]) >= 0) came++;
            }
            return came;
        } catch (ClassCastException e) {
            return -13;
        } catch (NullPointerException e) {
            return -11;
        } catch (ArrayIndexOutOfBoundsException e) {
            return -12;
        }
    }
    int taken(int step, int k) {
        if (out(k, 0, 5)) return BAD;
        if (out(step, 0, 9)) return -11;
        return Stair.classOf(k).isInstance(w.steps[step]) ? w.steps[step].width : -13;
    }
}
