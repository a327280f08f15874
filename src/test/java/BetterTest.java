/** Promises 13 to 24: widen, later, apart, order, shut, drill, judge, look, drawn, image, back, count. */
public final class BetterTest {
    private static final Due DUE = new Due();

    public static void main(String[] args) {
        DUE.promise(13);
        widen();
        DUE.promise(14);
        later();
        DUE.promise(15);
        apart();
        DUE.promise(16);
        order();
        orderByStood();
        DUE.promise(17);
        shut();
        DUE.promise(18);
        drill();
        DUE.promise(19);
        judge();
        DUE.promise(20);
        look();
        DUE.promise(21);
        drawn();
        DUE.promise(22, 23);
        imageAndBack();
        backTwice();
        imageKeepsNoTexts();
        DUE.promise(24);
        count();
        DUE.end();
    }

    private static void widen() {
        StairLines x = new StairLines();
        DUE.is("nobody", x.widen(), StairLines.NONE);
        x.come(2, 9, 2);
        DUE.is("no sooner", x.widen(), StairLines.NONE);
        x.come(1, 9, 1);
        DUE.is("three leave at once", x.widen(), 9);
        DUE.is("it is not widened", x.told(9, 1), 2);

        StairLines y = new StairLines();
        y.step(8, 4, 3);
        y.come(6, 7, 3);
        // by 7 or by 8 wider 7 ticks, else 8
        DUE.is("of like ones the highest", y.widen(), 7);
        DUE.is("ends of now", y.run(0), 8);
        y.step(7, 0, 3);
        DUE.is("ends with 7 wider", y.run(0), 7);
        y.step(7, 0, 2);
        y.step(8, 4, 4);
        DUE.is("ends with 8 wider", y.run(0), 7);

        StairLines v = new StairLines();
        v.step(0, 1, 1);
        v.come(1, 0, 1);
        DUE.is("the first step", v.widen(), 0);

        StairLines z = new StairLines();
        z.step(9, 5, 9);
        z.come(60, 9, 9);
        DUE.is("9 at most", z.widen(), StairLines.NONE);
        z.step(9, 5, 8);
        DUE.is("8 may be wider", z.widen(), 9);
    }

    private static void later() {
        StairLines x = new StairLines();
        DUE.is("nobody", x.later(), StairLines.NONE);
        x.come(3, 5, 2);
        DUE.is("nobody stands", x.later(), StairLines.NONE);
        x.come(2, 9, 21);
        x.come(2, 6, 3);
        DUE.is("stood", x.run(1), 2);
        DUE.is("of like ones the first", x.later(), 1);
        DUE.is("it is not later", x.told(1, 7), 2);
        x.set(0, 1, 22);
        DUE.is("nobody stands then", x.run(1), 0);

        // 199 at most: both bells would be 199, and they'd stand as they do
        StairLines y = new StairLines();
        y.come(2, 9, 1992);
        y.come(2, 9, 1992);
        DUE.is("no later than 199", y.later(), StairLines.NONE);
        y.drill();
        DUE.is("whatever was asked ahead", y.later(), StairLines.NONE);
        y.set(0, 1, 190);
        y.set(0, 0, 190);
        DUE.is("199 is later", y.later(), 0);
    }

    private static void apart() {
        StairLines x = new StairLines();
        DUE.is("bad", x.apart(-1), StairLines.BAD);
        DUE.is("bad", x.apart(2), StairLines.BAD);
        DUE.is("nobody", x.apart(0), 0);
        DUE.is("nobody, soonest", x.apart(1), 0);
        x.come(2, 9, 502);
        x.come(2, 9, 602);
        DUE.is("one tick apart", x.apart(0), 1);
        DUE.is("together is as soon", x.apart(1), 0);
        DUE.is("the bells stay", x.told(0, 7) * 1000 + x.told(1, 7), 50060);

        StairLines y = new StairLines();
        y.come(4, 9, 4);
        y.come(4, 9, 4);
        // together eight are slowed: 6 ticks; 1 or 2 apart: 5
        DUE.is("soonest", y.apart(1), 1);
        DUE.is("somebody always stands", y.apart(0), StairLines.NONE);

        // the first is on the stair from 0 to 30, one a tick, and fills step 9
        StairLines z = new StairLines();
        z.step(9, 0, 1);
        z.come(30, 9, 1);
        z.come(1, 9, 1);
        DUE.is("the greatest d", z.apart(0), 30);
        StairLines v = new StairLines();
        v.step(9, 0, 1);
        v.come(31, 9, 1);
        v.come(1, 9, 1);
        DUE.is("no d beyond 30", v.apart(0), StairLines.NONE);
        v.step(9, 1, 1);
        DUE.is("never out, whatever d", v.apart(1), 0);
    }

    private static void order() {
        StairLines x = new StairLines();
        DUE.is("nobody", x.order(-1), 0);
        DUE.is("no class", x.order(0), StairLines.BAD);
        x.come(1, 0, 51);
        x.come(1, 9, 1);
        DUE.is("ends now", x.run(0), 16);
        DUE.is("ends in order", x.order(-1), 11);
        DUE.is("class 0 has the bell of", x.order(0), 1);
        DUE.is("class 1 has the bell of", x.order(1), 0);
        DUE.is("bad", x.order(2), StairLines.BAD);
        DUE.is("bad", x.order(-2), StairLines.BAD);
        DUE.is("bad", x.order(Integer.MAX_VALUE), StairLines.BAD);
        DUE.is("the bells stay", x.told(0, 7), 5);

        // five alike: of like rows the first
        StairLines y = new StairLines();
        for (int c = 0; c < 5; c++) {
            y.come(1, 9, 10 * (4 - c) + 1);
        }
        for (int c = 0; c < 5; c++) {
            DUE.is("its own bell", y.order(c), c);
        }
        // the higher the floor, the earlier: all 120 ways count
        StairLines z = new StairLines();
        for (int s = 0; s < 10; s++) {
            z.step(s, 0, 9);
        }
        for (int c = 0; c < 5; c++) {
            z.come(1, 9 - 2 * c, 20 * c + 1);
        }
        for (int c = 0; c < 5; c++) {
            DUE.is("the other way round", z.order(c), 4 - c);
        }
        DUE.is("ends", z.order(-1), 10);
        Due.ticks(z, 3);
        // bells 0 and 2 have rung; class 4 must have one of them, and class 0, which is out, may have the first
        int[] row = {0, 4, 3, 2, 1};
        for (int c = 0; c < 5; c++) {
            DUE.is("the first of like rows", z.order(c), row[c]);
        }
        DUE.is("ends then", z.order(-1), 10);
    }

    private static void orderByStood() {
        StairLines x = new StairLines();
        x.step(9, 1, 1);
        x.come(2, 9, 2);
        x.come(1, 8, 101);
        DUE.is("never ends", x.order(-1), 400);
        DUE.is("fewer stand", x.order(0), 1);
        DUE.is("fewer stand", x.order(1), 0);

        StairLines y = new StairLines();
        y.come(3, 5, 12);
        y.come(3, 4, 1);
        y.come(6, 8, 23);
        DUE.is("as it is", y.run(0), 10);
        DUE.is("stood as it is", y.run(1), 11);
        DUE.is("no sooner", y.order(-1), 10);
        DUE.is("class 0", y.order(0), 2);
        DUE.is("class 1", y.order(1), 0);
        DUE.is("class 2", y.order(2), 1);
        y.set(0, 0, 2);
        y.set(0, 1, 1);
        y.set(0, 2, 0);
        DUE.is("ends in that order", y.run(0), 10);
        DUE.holds("fewer stood", y.run(1) < 11);
    }

    private static void shut() {
        StairLines x = new StairLines();
        DUE.is("nobody", x.shut(0, 100), 0);
        x.come(3, 9, 9);
        DUE.is("no tick", x.shut(9, 0), 3);
        DUE.is("nobody was there yet", x.shut(9, 1), 3);
        DUE.is("two ticks", x.shut(9, 2), 4);
        DUE.is("most ticks", x.shut(9, 100), 102);
        DUE.is("another step", x.shut(8, 100), 3);
        int[][] bad = {{-1, 0}, {10, 0}, {0, -1}, {0, 101}, {Integer.MIN_VALUE, 0}, {0, Integer.MAX_VALUE}};
        for (int[] b : bad) {
            DUE.is("bad shut", x.shut(b[0], b[1]), StairLines.BAD);
        }
        x.tick();
        DUE.is("from now on", x.shut(9, 2), 4);

        StairLines y = new StairLines();
        y.step(9, 1, 1);
        y.come(1, 9, 1);
        DUE.is("400 at most", y.shut(9, 3), 400);
    }

    private static void drill() {
        StairLines x = new StairLines();
        DUE.is("nobody", x.drill(), 0);
        x.come(3, 9, 1509);
        x.come(1, 8, 1991);
        DUE.is("now", x.drill(), 3);
        DUE.is("the bells stay", x.told(0, 7), 150);
        Due.ticks(x, 20);
        DUE.is("then", x.drill(), 3);
        x.step(9, 4, 2);
        DUE.is("in an even tick: 1 none, 2 two, 3 none, 4 two", x.drill(), 5);
        x.tick();
        DUE.is("in an odd tick", x.drill(), 4);
        x.step(9, 1, 1);
        DUE.is("400 at most", x.drill(), 400);
    }

    private static void judge() {
        StairLines x = new StairLines();
        x.come(10, 9, 9);
        int[] truly = {8, 8, 8, 7, 5, 3, 1, 0, 0};
        Due.row(x, 0, truly);
        DUE.is("as told", x.judge(9, 0), StairLines.NONE);
        DUE.is("another step", x.judge(8, 0), 0);
        for (int i = truly.length - 1; i >= 0; i--) {
            x.cell(0, i, truly[i] + 1);
            DUE.is("otherwise", x.judge(9, 0), i);
        }
        x.sheet(1, 0, 0);
        DUE.is("nothing is told", x.judge(9, 1), StairLines.NONE);
        x.sheet(1, 0, 40);
        DUE.is("bytes", x.judge(0, 1), StairLines.NONE);
        x.sheet(2, 1, 1);
        x.cell(2, 0, 65536 + 8);
        DUE.is("a short", x.judge(9, 2), StairLines.NONE);
        x.tick();
        Due.row(x, 0, 8, 8, 7, 4);
        DUE.is("from now on", x.judge(9, 0), 3);
        int[][] refused = {{-1, 0, -2}, {10, 0, -2}, {0, -1, -2}, {0, 4, -2}, {0, 3, -11}, {10, 3, -2}};
        for (int[] r : refused) {
            DUE.is("refused judge", x.judge(r[0], r[1]), r[2]);
        }
    }

    private static void look() {
        StairLines x = new StairLines();
        x.come(10, 9, 9);
        int[] full = {0, 1, 2, 3, 3, 3};
        for (int n = 0; n < full.length; n++) {
            DUE.is("look " + n, x.look(9, n), full[n]);
        }
        DUE.is("look 400", x.look(9, 400), 3);
        DUE.is("another step", x.look(8, 400), 0);
        x.tick();
        DUE.is("from now on", x.look(9, 400), 2);
        DUE.is("none of none", x.look(9, 0), 0);
        int[][] bad = {{-1, 0}, {10, 0}, {0, -1}, {0, 401}, {Integer.MIN_VALUE, 0}, {0, Integer.MAX_VALUE}};
        for (int[] b : bad) {
            DUE.is("bad look", x.look(b[0], b[1]), StairLines.BAD);
        }
        StairLines y = new StairLines();
        y.step(9, 1, 1);
        y.come(2, 9, 1);
        DUE.is("full in all but the first", y.look(9, 400), 399);
    }

    private static void drawn() {
        StairLines x = new StairLines();
        DUE.is("nobody", x.drawn(7), 0);
        // one comes in tick 0 and leaves in the first tick in which step 9 is not drawn
        x.come(1, 9, 1);
        DUE.is("step 8 in tick 2", x.drawn(0), 2);
        DUE.is("step 9 in tick 1", x.drawn(22), 3);
        DUE.is("step 9 in tick 1, below 0", x.drawn(-2891), 3);
        DUE.is("step 9 in ticks 1 and 2", x.drawn(3991), 4);
        x.tick();
        DUE.is("drawn anew", x.drawn(22), 1);
        x.step(9, 1, 1);
        DUE.is("400 at most", x.drawn(1), 400);
    }

    private static void imageAndBack() {
        StairLines x = new StairLines();
        DUE.is("none", x.back(), StairLines.STATE);
        Due.text(x, "slows 0;comes 1;minds 1;");
        x.step(3, 2, 4);
        x.come(9, 9, 34);
        x.come(5, 2, 2);
        Due.ticks(x, 5);
        DUE.is("image", x.image(), 5);
        int[] was = Due.state(x);
        x.step(3, 1, 5);
        x.step(7, 4, 1);
        x.set(0, 0, 77);
        x.set(1, 0, 7);
        x.set(2, 1, 7);
        x.force(1);
        x.come(4, 4, 4);
        Due.ticks(x, 6);
        DUE.is("back", x.back(), 5);
        int[] is = Due.state(x);
        for (int i = 0; i < was.length; i++) {
            DUE.is("state " + i, is[i], was[i]);
        }
        DUE.is("the class that came is gone", x.told(2, 5), StairLines.BAD);
        DUE.is("its number is free", x.come(6, 6, 66), 2);
        DUE.is("and all its are in", x.told(2, 9), 6);
    }

    private static void backTwice() {
        StairLines x = new StairLines();
        x.come(4, 9, 2);
        x.tick();
        x.image();
        Due.ticks(x, 2);
        DUE.is("out", x.count(2), 4);
        DUE.is("back", x.back(), 1);
        DUE.is("nobody is out", x.count(2), 0);
        Due.ticks(x, 7);
        DUE.is("back again", x.back(), 1);
        DUE.is("on 9", x.told(9, 4), 2);
        x.tick();
        DUE.is("a later image", x.image(), 2);
        x.tick();
        DUE.is("back to that", x.back(), 2);
    }

    private static void imageKeepsNoTexts() {
        StairLines x = new StairLines();
        x.image();
        Due.text(x, "slows 0;comes 1;minds 1;");
        Due.feed(x, "abc");
        x.sheet(0, 1, 4);
        x.force(1);
        x.back();
        DUE.is("the rule is back", x.count(7), 0);
        DUE.is("the text stays", x.count(5), 2);
        DUE.is("the tape stays", x.count(6), 3);
        DUE.is("the sheet stays", x.cell(0, 3, 1), 1);
        DUE.is("force it", x.force(1), 0);
    }

    private static void count() {
        StairLines x = new StairLines();
        Due.text(x, "slows 0;comes 3;minds 1;");
        x.force(1);
        Due.feed(x, "xyz");
        x.come(10, 9, 9);
        x.come(6, 0, 9);
        Due.ticks(x, 2);
        int[] due = {2, 2, 2, 4 + 4 + 2, 4, 2, 3, 1};
        for (int what = 0; what < due.length; what++) {
            DUE.is("count " + what, x.count(what), due[what]);
        }
        DUE.is("bad", x.count(-1), StairLines.BAD);
        DUE.is("bad", x.count(8), StairLines.BAD);
        DUE.is("bad", x.count(Integer.MIN_VALUE), StairLines.BAD);
    }
}
