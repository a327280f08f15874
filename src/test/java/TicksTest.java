/** Promises 9 to 12: tick, run, on, holdsUp. */
public final class TicksTest {
    private static final Due DUE = new Due();

    public static void main(String[] args) {
        DUE.promise(9);
        tick();
        tickByRoom();
        tickByClasses();
        DUE.promise(10);
        run();
        runMinds();
        runThatNeverEnds();
        DUE.promise(11);
        on();
        DUE.promise(12);
        holdsUp();
        DUE.promise(10, 11, 12, 13, 14, 15, 16, 17, 18, 19, 20, 21);
        runChangesNothing();
        DUE.end();
    }

    /** Ten who come to step 9, which holds eight: worked out by hand. */
    private static StairLines tenOnTheLast() {
        StairLines x = new StairLines();
        x.come(10, 9, 9);
        return x;
    }

    private static void tick() {
        StairLines x = tenOnTheLast();
        int[] out = {0, 1, 2, 3, 5, 7, 9, 10, 10, 10};
        int[] onIt = {8, 8, 8, 7, 5, 3, 1, 0, 0, 0};
        int[] in = {2, 1, 0, 0, 0, 0, 0, 0, 0, 0};
        for (int t = 0; t < out.length; t++) {
            DUE.is("tick " + t, x.tick(), out[t]);
            DUE.is("out behind " + t, x.count(2), out[t]);
            DUE.is("on 9 behind " + t, x.told(9, 4), onIt[t]);
            DUE.is("in behind " + t, x.told(0, 9), in[t]);
            DUE.is("the tick behind " + t, x.count(1), t + 1);
        }
        x.come(3, 9, 3);
        x.tick();
        DUE.is("out of all", x.tick(), 12);
    }

    private static void tickByRoom() {
        StairLines x = new StairLines();
        // a sharp turn holds one; who leaves it makes room in the same tick
        x.step(5, 3, 1);
        x.come(4, 4, 4);
        x.tick();
        x.tick();
        DUE.is("one had room", x.told(5, 4), 1);
        DUE.is("three stay", x.told(4, 4), 3);
        x.tick();
        DUE.is("one more, as one left", x.told(5, 4), 1);
        DUE.is("two stay", x.told(4, 4), 2);
        DUE.is("on 6", x.told(6, 4), 1);

        StairLines y = new StairLines();
        y.step(9, 3, 1);
        y.come(2, 8, 2);
        y.tick();
        y.tick();
        DUE.is("step 9 has room for one", y.told(9, 4), 1);
    }

    private static void tickByClasses() {
        StairLines x = new StairLines();
        x.come(7, 2, 5);
        x.come(7, 2, 25);
        x.come(7, 2, 6);
        x.tick();
        DUE.is("first: as many as it lets", x.told(0, 9), 2);
        DUE.is("second: its bell is later", x.told(1, 9), 7);
        DUE.is("third: as many as have room", x.told(2, 9), 4);
        DUE.is("full", x.told(2, 4), 8);
        x.tick();
        DUE.is("first is first again", x.told(0, 9), 1);
        DUE.is("third has no room left", x.told(2, 9), 4);
        x.tick();
        DUE.is("first", x.told(0, 9), 0);
        DUE.is("second at its bell, without room", x.told(1, 9), 7);
    }

    private static void run() {
        StairLines x = tenOnTheLast();
        DUE.is("ends", x.run(0), 8);
        DUE.is("stood", x.run(1), 7 + 7 + 7 + 5 + 3 + 1);
        DUE.is("minded", x.run(2), 30);
        DUE.is("most", x.run(3), 8);
        DUE.is("bad", x.run(-1), StairLines.BAD);
        DUE.is("bad", x.run(4), StairLines.BAD);
        DUE.is("bad", x.run(Integer.MIN_VALUE), StairLines.BAD);
        Due.ticks(x, 3);
        DUE.is("ends from now on", x.run(0), 5);
        DUE.is("stood from now on", x.run(1), 7 + 5 + 3 + 1);
        DUE.is("most from now on", x.run(3), 7);
        Due.ticks(x, 5);
        for (int what = 0; what < 4; what++) {
            DUE.is("all are out", x.run(what), 0);
        }

        StairLines y = new StairLines();
        y.come(1, 0, 1991);
        DUE.is("the last bell: 199 ticks, one on, ten steps", y.run(0), 210);
        DUE.is("nobody stood", y.run(1), 0);
        DUE.is("most is one", y.run(3), 1);
    }

    private static void runMinds() {
        StairLines x = new StairLines();
        Due.text(x, "slows 0;comes 2;minds many+10*tick;");
        x.force(1);
        // tick 0: two on; 1: one leaves, one stands, two on; 2: one leaves, two stand, one on; then 3, 2, 1 are there
        x.step(9, 0, 1);
        x.come(5, 9, 9);
        int minded = 1 * (3 + 10) + 2 * (3 + 20) + 2 * (2 + 30) + 1 * (1 + 40);
        DUE.is("stood", x.run(1), 1 + 2 + 2 + 1);
        DUE.is("minds, told by how all is then", x.run(2), minded);

        StairLines y = new StairLines();
        Due.text(y, "slows 0;comes 9;minds cell*wide+left+ahead;");
        y.force(1);
        y.step(7, 2, 1);
        y.come(2, 7, 2);
        y.come(3, 7, 1003);
        // one stands in tick 1: cell 7, wide 1, three left, one ahead; in tick 101 two, one ahead, in 102 one
        int first = 7 + 3 + 1;
        int second = 2 * (7 + 0 + 1);
        int third = 7 + 0 + 1;
        DUE.is("minds by all its names", y.run(2), first + second + third);
    }

    private static void runThatNeverEnds() {
        StairLines x = new StairLines();
        x.step(9, 1, 1);
        x.come(1, 9, 1);
        DUE.is("400 at most", x.run(0), 400);
        DUE.is("stood in all but the first", x.run(1), 399);
        x.tick();
        DUE.is("stood in all", x.run(1), 400);

        StairLines y = new StairLines();
        Due.text(y, "slows 0;comes 0;minds 0;");
        y.force(1);
        y.come(1, 0, 1);
        DUE.is("who never comes is never out", y.run(0), 400);
        DUE.is("and does not stand", y.run(1), 0);
        DUE.is("and is on no step", y.run(3), 0);
    }

    private static void runChangesNothing() {
        StairLines x = tenOnTheLast();
        x.come(20, 0, 15);
        x.tick();
        int[] was = Due.state(x);
        for (int what = 0; what < 4; what++) {
            x.run(what);
        }
        x.on(9, 30);
        x.holdsUp();
        x.widen();
        x.later();
        x.apart(0);
        x.apart(1);
        x.order(-1);
        x.order(1);
        x.shut(9, 7);
        x.drill();
        x.look(9, 30);
        x.drawn(4711);
        Due.row(x, 0, 1, 2, 3);
        x.judge(9, 0);
        int[] is = Due.state(x);
        for (int i = 0; i < was.length; i++) {
            DUE.is("state " + i, is[i], was[i]);
        }
    }

    private static void on() {
        StairLines x = tenOnTheLast();
        int[] onIt = {0, 8, 8, 8, 7, 5, 3, 1, 0, 0};
        for (int n = 0; n < onIt.length; n++) {
            DUE.is("on 9 behind " + n, x.on(9, n), onIt[n]);
            DUE.is("on 8 behind " + n, x.on(8, n), 0);
        }
        DUE.is("behind 400", x.on(9, 400), 0);
        int[][] bad = {{-1, 0}, {10, 0}, {0, -1}, {0, 401}, {Integer.MAX_VALUE, 0}, {0, Integer.MIN_VALUE}};
        for (int[] b : bad) {
            DUE.is("bad on", x.on(b[0], b[1]), StairLines.BAD);
        }
        x.step(9, 1, 4);
        x.step(9, 0, 2);
        x.tick();
        DUE.is("on now", x.on(9, 0), 8);
    }

    private static void holdsUp() {
        StairLines x = new StairLines();
        DUE.is("nobody", x.holdsUp(), StairLines.NONE);
        x.come(2, 0, 2);
        DUE.is("nobody stands", x.holdsUp(), StairLines.NONE);
        x.come(4, 3, 4);
        DUE.is("step 3", x.holdsUp(), 3);
        x.come(4, 9, 4);
        DUE.is("of like ones the lowest", x.holdsUp(), 9);
        x.come(5, 2, 504);
        DUE.is("most stood on 2", x.holdsUp(), 2);
        x.step(5, 3, 1);
        DUE.is("ahead of a sharp turn", x.holdsUp(), 4);

        StairLines y = new StairLines();
        y.come(3, 0, 3);
        DUE.is("only on step 0 one stands", y.holdsUp(), 0);
        DUE.is("one stood one tick", y.run(1), 1);
        DUE.is("most are on step 0", y.run(3), 3);
    }
}
