/** Promises 1 to 5: a new object, step, come, set, told. */
public final class StepsAndClassesTest {
    private static final Due DUE = new Due();

    public static void main(String[] args) {
        DUE.promise(1);
        newObject();
        DUE.promise(2);
        stepRefuses();
        stepKeepsWhoIsOnIt();
        DUE.promise(3);
        come();
        comeIsFull();
        DUE.promise(4);
        set();
        setRefuses();
        setMovesThem();
        DUE.promise(2, 5);
        holdsAndPasses();
        DUE.promise(5);
        passesByTicks();
        told();
        DUE.end();
    }

    private static void newObject() {
        StairLines x = new StairLines();
        for (int s = 0; s < 10; s++) {
            DUE.is("new told kind", x.told(s, 0), 0);
            DUE.is("new told width", x.told(s, 1), 2);
            DUE.is("new told holds", x.told(s, 2), 8);
            DUE.is("new told passes", x.told(s, 3), 2);
            DUE.is("new told on", x.told(s, 4), 0);
        }
        int[] counts = {0, 0, 0, 0, 0, 1, 0, 0};
        for (int what = 0; what < counts.length; what++) {
            DUE.is("new count " + what, x.count(what), counts[what]);
        }
        for (int sheet = 0; sheet < 4; sheet++) {
            DUE.is("new cell", x.cell(sheet, 0, 0), -11);
        }
        DUE.is("new told class 0", x.told(0, 5), StairLines.BAD);
        DUE.is("new back", x.back(), StairLines.STATE);
    }

    private static void holdsAndPasses() {
        int[][] holds = {
            {4, 8, 12, 16, 20, 24, 28, 32, 36},
            {2, 4, 6, 8, 10, 12, 14, 16, 18},
            {6, 10, 14, 18, 22, 26, 30, 34, 38},
            {1, 3, 5, 7, 9, 11, 13, 15, 17},
            {12, 20, 28, 36, 44, 52, 60, 68, 76},
            {2, 4, 6, 8, 10, 12, 14, 16, 18},
        };
        int[][] passesAtFirst = {
            {1, 2, 3, 4, 5, 6, 7, 8, 9},
            {0, 1, 2, 3, 4, 5, 6, 7, 8},
            {1, 2, 3, 4, 5, 6, 7, 8, 9},
            {1, 1, 2, 3, 4, 5, 6, 7, 8},
            {1, 2, 3, 4, 5, 6, 7, 8, 9},
            {0, 0, 0, 0, 0, 0, 0, 0, 0},
        };
        StairLines x = new StairLines();
        int was = 0;
        for (int kind = 0; kind < 6; kind++) {
            for (int width = 1; width <= 9; width++) {
                String what = "kind " + kind + " width " + width;
                DUE.is("step " + what, x.step(3, kind, width), was);
                was = kind;
                DUE.is("kind of " + what, x.told(3, 0), kind);
                DUE.is("width of " + what, x.told(3, 1), width);
                DUE.is("holds of " + what, x.told(3, 2), holds[kind][width - 1]);
                DUE.is("passes of " + what, x.told(3, 3), passesAtFirst[kind][width - 1]);
            }
        }
        DUE.is("the other steps stay", x.told(4, 0) * 10 + x.told(2, 1), 2);
    }

    private static void passesByTicks() {
        StairLines x = new StairLines();
        x.step(0, 4, 3);
        x.step(1, 5, 1);
        x.step(2, 5, 2);
        x.step(3, 5, 9);
        x.step(4, 1, 3);
        for (int t = 0; t < 40; t++) {
            DUE.is("gate in " + t, x.told(0, 3), t % 2 == 0 ? 3 : 0);
            DUE.is("laced 1 in " + t, x.told(1, 3), 0);
            DUE.is("laced 2 in " + t, x.told(2, 3), t % 4 == 0 ? 0 : 1);
            DUE.is("laced 9 in " + t, x.told(3, 3), t % 11 == 0 ? 0 : 8);
            DUE.is("turn in " + t, x.told(4, 3), 2);
            x.tick();
        }
    }

    private static void stepRefuses() {
        StairLines x = new StairLines();
        x.come(8, 0, 9);
        x.tick();
        DUE.is("eight on step 0", x.told(0, 4), 8);
        int[][] bad = {{-1, 0, 1}, {10, 0, 1}, {0, -1, 1}, {0, 6, 1}, {0, 0, 0}, {0, 0, 10}, {0, 3, 0},
            {Integer.MIN_VALUE, 0, 1}, {0, Integer.MAX_VALUE, 1}, {0, 0, Integer.MIN_VALUE}};
        for (int[] b : bad) {
            DUE.is("bad step", x.step(b[0], b[1], b[2]), StairLines.BAD);
        }
        DUE.is("stair of 1 holds 4", x.step(0, 0, 1), StairLines.STATE);
        DUE.is("turn of 3 holds 6", x.step(0, 1, 3), StairLines.STATE);
        DUE.is("sharp of 4 holds 7", x.step(0, 3, 4), StairLines.STATE);
        DUE.is("kind stays", x.told(0, 0), 0);
        DUE.is("width stays", x.told(0, 1), 2);
        DUE.is("turn of 4 holds 8", x.step(0, 1, 4), 0);
        DUE.is("sharp of 5 holds 9", x.step(0, 3, 5), 1);
        DUE.is("none on step 1", x.step(1, 3, 1), 0);
    }

    private static void stepKeepsWhoIsOnIt() {
        StairLines x = new StairLines();
        x.come(5, 4, 5);
        x.tick();
        DUE.is("gate", x.step(4, 4, 9), 0);
        DUE.is("five stay", x.told(4, 4), 5);
        DUE.is("five on steps", x.count(3), 5);
    }

    private static void come() {
        StairLines x = new StairLines();
        int[][] bad = {{0, 0, 1}, {61, 0, 1}, {-1, 0, 1}, {1, -1, 1}, {1, 10, 1}, {1, 0, 0}, {1, 0, 10},
            {1, 0, 1990}, {1, 0, 2000}, {1, 0, 2001}, {1, 0, -1}, {1, 0, -9}, {1, 0, -19}, {1, 0, Integer.MIN_VALUE},
            {1, 0, Integer.MAX_VALUE}, {Integer.MAX_VALUE, 0, 1}, {1, Integer.MIN_VALUE, 1}};
        for (int[] b : bad) {
            DUE.is("bad come " + b[0] + " " + b[1] + " " + b[2], x.come(b[0], b[1], b[2]), StairLines.BAD);
        }
        DUE.is("none came", x.count(0), 0);
        DUE.is("least", x.come(1, 0, 1), 0);
        DUE.is("most", x.come(60, 9, 1999), 1);
        int[][] due = {{1, 0, 0, 1, 1}, {60, 9, 199, 9, 60}};
        for (int c = 0; c < 2; c++) {
            for (int what = 5; what <= 9; what++) {
                DUE.is("class " + c + " told " + what, x.told(c, what), due[c][what - 5]);
            }
        }
        DUE.is("all are in", x.count(4), 61);
    }

    private static void comeIsFull() {
        StairLines x = new StairLines();
        for (int c = 0; c < 5; c++) {
            DUE.is("come", x.come(2, c, 11 * c + 1), c);
        }
        DUE.is("full", x.come(2, 0, 1), StairLines.FULL);
        DUE.is("bad ahead of full", x.come(0, 0, 1), StairLines.BAD);
        DUE.is("five classes", x.count(0), 5);
        DUE.is("ten are in", x.count(4), 10);
    }

    private static void set() {
        StairLines x = new StairLines();
        x.come(7, 3, 125);
        x.come(8, 4, 6);
        DUE.is("bell was", x.set(0, 0, 199), 12);
        DUE.is("bell was then", x.set(0, 0, 0), 199);
        DUE.is("every was", x.set(1, 0, 9), 5);
        DUE.is("every was then", x.set(1, 0, 1), 9);
        DUE.is("floor was", x.set(2, 0, 9), 3);
        DUE.is("floor was then", x.set(2, 0, 0), 9);
        DUE.is("bell", x.told(0, 7), 0);
        DUE.is("every", x.told(0, 8), 1);
        DUE.is("floor", x.told(0, 6), 0);
        DUE.is("size", x.told(0, 5), 7);
        DUE.is("the other's bell", x.told(1, 7), 0);
        DUE.is("the other's every", x.told(1, 8), 6);
        DUE.is("the other's floor", x.told(1, 6), 4);
    }

    private static void setRefuses() {
        StairLines x = new StairLines();
        DUE.is("no class", x.set(0, 0, 0), StairLines.BAD);
        x.come(7, 3, 125);
        int[][] bad = {{-1, 0, 1}, {3, 0, 1}, {0, 1, 1}, {0, -1, 1}, {0, 0, -1}, {0, 0, 200}, {1, 0, 0}, {1, 0, 10},
            {2, 0, -1}, {2, 0, 10}, {0, Integer.MAX_VALUE, 1}, {0, Integer.MIN_VALUE, 1}};
        for (int[] b : bad) {
            DUE.is("bad set " + b[0] + " " + b[1] + " " + b[2], x.set(b[0], b[1], b[2]), StairLines.BAD);
        }
        DUE.is("bell stays", x.told(0, 7), 12);
        DUE.is("every stays", x.told(0, 8), 5);
        DUE.is("floor stays", x.told(0, 6), 3);
    }

    private static void setMovesThem() {
        StairLines x = new StairLines();
        x.come(6, 3, 2);
        x.tick();
        x.set(2, 0, 7);
        x.set(1, 0, 3);
        x.tick();
        DUE.is("two went on from 3", x.told(4, 4), 2);
        DUE.is("three on 7", x.told(7, 4), 3);
        x.set(0, 0, 50);
        x.tick();
        DUE.is("no more before the bell", x.told(0, 9), 1);
    }

    private static void told() {
        StairLines x = new StairLines();
        x.come(9, 2, 34);
        DUE.is("in at first", x.told(0, 9), 9);
        Due.ticks(x, 3);
        DUE.is("in before the bell", x.told(0, 9), 9);
        x.tick();
        DUE.is("in behind the bell", x.told(0, 9), 5);
        DUE.is("on", x.told(2, 4), 4);
        DUE.is("size stays", x.told(0, 5), 9);
        int[][] bad = {{-1, 0}, {10, 0}, {10, 4}, {-1, 4}, {0, -1}, {0, 10}, {1, 5}, {-1, 5}, {1, 9}, {-1, 9},
            {Integer.MAX_VALUE, 0}, {Integer.MIN_VALUE, 9}, {0, Integer.MAX_VALUE}, {0, Integer.MIN_VALUE}};
        for (int[] b : bad) {
            DUE.is("bad told " + b[0] + " " + b[1], x.told(b[0], b[1]), StairLines.BAD);
        }
    }
}
