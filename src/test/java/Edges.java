import java.util.ArrayList;
import java.util.List;

/**
 * Looks at the edges of a call: what it takes, what it refuses, and whether a refusal has changed anything.
 * Two objects are made alike, the call is made on one of them, and then both are asked for all they can tell.
 */
final class Edges {
    static final int MISSING = -11, OUTSIDE = -12, OTHER_SORT = -13, BELOW_ZERO = -14;
    static final int MIN = Integer.MIN_VALUE, MAX = Integer.MAX_VALUE;

    interface Build {
        StairLines made();
    }

    interface Call {
        int on(StairLines x);
    }

    interface CallWith {
        int on(StairLines x, int v);
    }

    private final Due due;

    Edges(Due due) {
        this.due = due;
    }

    /** The call is answered so, and no later answer tells that it was made. */
    void leaves(String what, Build build, Call call, int answer) {
        StairLines x = build.made();
        due.is(what, call.on(x), answer);
        List<Integer> got = all(x);
        List<Integer> want = all(build.made());
        for (int i = 0; i < want.size(); i++) {
            due.is(what + " changes nothing, answer " + i, got.get(i), want.get(i));
        }
    }

    /** Each of these is answered so, and changes nothing. */
    void refuses(String what, int answer, Build build, CallWith call, int... values) {
        for (int v : values) {
            leaves(what + " of " + v, build, x -> call.on(x, v), answer);
        }
    }

    /** Each of these is no refusal. */
    void takes(String what, Build build, CallWith call, int... values) {
        for (int v : values) {
            due.holds(what + " takes " + v, call.on(build.made(), v) >= StairLines.NONE);
        }
    }

    /** All of these are taken, and none beside them, on both sides. */
    void bounds(String what, int answer, Build build, CallWith call, int least, int most) {
        for (int v = least; v <= most; v++) {
            takes(what, build, call, v);
        }
        refuses(what, answer, build, call, least - 1, most + 1, MIN, MAX);
    }

    // ---- objects to begin with

    static StairLines fresh() {
        return new StairLines();
    }

    /** Has something of all that an object can have, in at most 130 calls. */
    static StairLines busy() {
        StairLines x = new StairLines();
        x.step(2, 2, 3);
        x.step(4, 1, 2);
        x.step(6, 3, 2);
        x.step(8, 4, 1);
        x.step(9, 5, 3);
        Due.text(x, "slows 5<many;comes 8-cell;minds many+wide;");
        x.come(20, 0, 3);
        x.come(9, 3, 29);
        Due.ticks(x, 3);
        x.image();
        x.come(7, 7, 64);
        x.force(1);
        Due.ticks(x, 2);
        Due.feed(x, "slows 1;comes 7;minds 2");
        fill(x, 0, 0, 12);
        fill(x, 1, 1, 9);
        fill(x, 2, 2, 6);
        return x;
    }

    /** As full as can be: texts, tape, classes; and no image. */
    static StairLines full() {
        StairLines x = new StairLines();
        for (int n = 1; n <= 5; n++) {
            Due.text(x, "slows 0;comes " + n + ";minds 1;");
        }
        for (int c = 0; c < 5; c++) {
            x.come(9 + c, c, 3);
        }
        Due.feed(x, " ".repeat(160));
        return x;
    }

    /** A row of a sort whose items, three by three, are classes. */
    static void fill(StairLines x, int sheet, int sort, int n) {
        x.sheet(sheet, sort, n);
        for (int i = 0; i < n; i++) {
            x.cell(sheet, i, 9 - i % 7);
        }
    }

    /** So many, 45 at most, are on a step that is a gate of width 9; one tick has passed. */
    static StairLines crowded(int step, int n) {
        StairLines x = new StairLines();
        x.step(step, 4, 9);
        for (int left = n; left > 0; left -= 9) {
            x.come(Math.min(9, left), step, 9);
        }
        x.tick();
        return x;
    }

    /** So many are on step 9, which is a turn of width 1: it holds two and lets nobody leave. */
    static StairLines stuck(int n) {
        StairLines x = new StairLines();
        x.step(9, 1, 1);
        x.come(n, 9, n);
        x.tick();
        return x;
    }

    /** 300 who pass a step that holds one, one by one, from a bell on: all are out 301 ticks behind it. */
    static StairLines queue(int bell) {
        StairLines x = new StairLines();
        x.step(9, 3, 1);
        for (int c = 0; c < 5; c++) {
            x.come(60, 9, 10 * bell + 1);
        }
        return x;
    }

    // ---- all that an object can tell

    /** Uses the object up: sheets and the tape can only be read so. */
    static List<Integer> all(StairLines x) {
        List<Integer> row = new ArrayList<>();
        told(row, x);
        looksAhead(row, x);
        rules(row, x);
        tape(row, x);
        row.add(x.tick());
        row.add(x.back());
        told(row, x);
        for (int sheet = 0; sheet < 4; sheet++) {
            sheet(row, x, sheet);
        }
        return row;
    }

    private static void told(List<Integer> row, StairLines x) {
        for (int what = 0; what < 8; what++) {
            row.add(x.count(what));
        }
        for (int s = 0; s < 10; s++) {
            row.add(x.told(s, 0));
            row.add(x.told(s, 1));
            row.add(x.told(s, 4));
        }
        for (int c = 0; c < 5; c++) {
            for (int what = 5; what < 10; what++) {
                row.add(x.told(c, what));
            }
        }
    }

    private static void looksAhead(List<Integer> row, StairLines x) {
        for (int what = 0; what < 4; what++) {
            row.add(x.run(what));
            row.add(x.judge(what, what));
        }
        row.add(x.holdsUp());
        row.add(x.order(-1));
        row.add(x.drill());
        row.add(x.drawn(7));
    }

    private static void rules(List<Integer> row, StairLines x) {
        int was = x.count(7);
        for (int text = 0; text < 6; text++) {
            row.add(x.force(text));
            row.add(x.run(1));
            row.add(x.run(2));
        }
        x.force(was);
    }

    private static void tape(List<Integer> row, StairLines x) {
        row.add(x.feed(';'));
        int text = x.text();
        row.add(text);
        row.add(x.count(6));
        int was = x.force(text);
        row.add(was);
        row.add(x.run(1));
        row.add(x.run(2));
        x.force(Math.max(0, was));
    }

    /** Its sort, what it holds, how long it is, up to twelve. */
    private static void sheet(List<Integer> row, StairLines x, int sheet) {
        for (int sort = 0; sort < 3; sort++) {
            int had = x.count(0);
            row.add(x.classes(sheet, sort, 0, 4));
            for (int c = had; c < x.count(0); c++) {
                for (int what = 5; what < 9; what++) {
                    row.add(x.told(c, what));
                }
            }
            x.back();
        }
        for (int i = 0; i < 14; i++) {
            row.add(x.cell(sheet, i, 1));
        }
    }
}
