/** Promises 25 to 29: sheet, cell, copy, classes, taken. */
public final class HostTest {
    private static final Due DUE = new Due();

    public static void main(String[] args) {
        DUE.promise(25);
        sheet();
        DUE.promise(26);
        cell();
        DUE.promise(27);
        copy();
        copyRefuses();
        copyOverItself();
        DUE.promise(28);
        classes();
        classesBySorts();
        classesRefuse();
        classesStopOutside();
        DUE.promise(29);
        taken();
        DUE.end();
    }

    /** On a stair without anybody a sheet of zeros is judged as true. */
    private static boolean isZero(StairLines x, int sheet) {
        return x.judge(0, sheet) == StairLines.NONE;
    }

    private static void sheet() {
        StairLines x = new StairLines();
        int[][] refused = {{-1, 0, 1, -2}, {4, 0, 1, -2}, {0, -2, 1, -2}, {0, 3, 1, -2}, {0, 0, 41, -2}, {0, 0, -1, -14},
            {0, 3, -1, -2}, {4, 0, -1, -2}, {4, -1, 0, -2}, {0, 2, Integer.MIN_VALUE, -14}, {0, 2, Integer.MAX_VALUE, -2}};
        for (int[] r : refused) {
            DUE.is("refused sheet", x.sheet(r[0], r[1], r[2]), r[3]);
            DUE.is("it is still missing", x.judge(0, 0), -11);
        }
        for (int sort = 0; sort < 3; sort++) {
            DUE.is("sheet of none", x.sheet(sort, sort, 0), 1);
            DUE.is("no place", x.cell(sort, 0, 1), -12);
            DUE.is("sheet of most", x.sheet(sort, sort, 40), 1);
            DUE.is("last place", x.cell(sort, 39, 1), 1);
            DUE.is("no place beyond", x.cell(sort, 40, 1), -12);
            DUE.is("not all 0", x.judge(0, sort), 39);
            DUE.is("sheet again", x.sheet(sort, sort, 40), 1);
            DUE.holds("all 0", isZero(x, sort));
        }
        x.cell(1, 5, 7);
        DUE.is("refused, it stays", x.sheet(1, 0, -3), -14);
        DUE.is("as it was", x.judge(0, 1), 5);
        DUE.is("missing, whatever n", x.sheet(1, -1, -77), 1);
        DUE.is("missing", x.cell(1, 0, 1), -11);
        DUE.is("missing, n above 40", x.sheet(2, -1, 41), 1);
        DUE.is("missing", x.cell(2, 0, 1), -11);
        DUE.is("missing again", x.sheet(2, -1, 0), 1);
    }

    private static void cell() {
        StairLines x = new StairLines();
        x.sheet(0, 0, 2);
        x.sheet(1, 1, 2);
        x.sheet(2, 2, 2);
        DUE.is("bad", x.cell(-1, 0, 0), StairLines.BAD);
        DUE.is("bad", x.cell(4, 0, 0), StairLines.BAD);
        DUE.is("bad ahead of outside", x.cell(4, 9, 0), StairLines.BAD);
        DUE.is("missing", x.cell(3, 0, 0), -11);
        DUE.is("missing ahead of outside", x.cell(3, -1, 0), -11);
        for (int i : new int[] {-1, 2, Integer.MIN_VALUE, Integer.MAX_VALUE}) {
            DUE.is("outside", x.cell(0, i, 0), -12);
        }
        x.cell(0, 0, 256);
        DUE.is("8 bits of a byte", x.judge(0, 0), StairLines.NONE);
        x.cell(0, 1, 257);
        DUE.is("8 bits of a byte", x.judge(0, 0), 1);
        x.cell(1, 0, 65536);
        DUE.is("16 bits of a short", x.judge(0, 1), StairLines.NONE);
        x.cell(1, 1, 256);
        DUE.is("16 bits of a short", x.judge(0, 1), 1);
        x.cell(2, 0, 65536);
        DUE.is("all of an int", x.judge(0, 2), 0);
    }

    /** What stands on a sheet of ints, told by classes of these sizes; sheet 3 is used for it. */
    private static void is(StairLines x, int sheet, int... cells) {
        for (int i = 0; i < cells.length; i++) {
            DUE.is("length", x.cell(sheet, cells.length, 0), -12);
            x.sheet(3, 2, 3);
            x.copy(sheet, i, 3, 0, 1);
            x.cell(3, 2, 1);
            x.image();
            DUE.is("one came", x.classes(3, 2, 0, 1), 1);
            DUE.is("item " + i, x.told(x.count(0) - 1, 5), cells[i]);
            x.back();
            x.sheet(3, -1, 0);
        }
    }

    private static void copy() {
        StairLines x = new StairLines();
        Due.row(x, 0, 11, 12, 13, 14);
        Due.row(x, 1, 21, 22, 23);
        DUE.is("copy two", x.copy(0, 1, 1, 0, 2), 2);
        is(x, 1, 12, 13, 23);
        is(x, 0, 11, 12, 13, 14);
        DUE.is("copy none", x.copy(0, 0, 1, 0, 0), 0);
        DUE.is("copy none at the ends", x.copy(0, 4, 1, 3, 0), 0);
        DUE.is("copy the last", x.copy(0, 3, 1, 2, 1), 1);
        is(x, 1, 12, 13, 14);
        DUE.is("copy all back", x.copy(1, 0, 0, 1, 3), 3);
        is(x, 0, 11, 12, 13, 14);
    }

    private static void copyRefuses() {
        StairLines x = new StairLines();
        Due.row(x, 0, 11, 12, 13, 14);
        Due.row(x, 1, 21, 22, 23);
        x.sheet(2, 1, 9);
        int big = Integer.MAX_VALUE;
        int[][] refused = {
            {-1, 0, 0, 0, 1, -2}, {4, 0, 0, 0, 1, -2}, {0, 0, -1, 0, 1, -2}, {0, 0, 4, 0, 1, -2}, {3, 0, 4, 0, 1, -2},
            {3, 0, 0, 0, 1, -11}, {0, 0, 3, 0, 1, -11}, {3, 0, 3, 0, 1, -11}, {0, -1, 3, -1, -1, -11}, {3, 0, 2, 0, 1, -11},
            {0, 0, 2, 0, 1, -13}, {2, 0, 0, 0, 1, -13}, {0, 0, 2, 0, -1, -13}, {0, 9, 2, 0, 0, -13}, {0, 0, 2, 0, 0, -13},
            {0, -1, 1, 0, 1, -12}, {0, 0, 1, -1, 1, -12}, {0, 0, 1, 0, -1, -12}, {0, 2, 1, 0, 3, -12}, {0, 0, 1, 1, 3, -12},
            {0, 0, 1, 0, 4, -12}, {0, 5, 1, 0, 0, -12}, {0, 0, 1, 4, 0, -12}, {0, big, 1, 0, big, -12}, {0, 1, 1, 0, big, -12},
            {0, big, 1, 0, 1, -12}, {0, 0, 1, big, 2, -12}, {0, 0, 1, 0, Integer.MIN_VALUE, -12},
            {0, Integer.MIN_VALUE, 1, 0, 1, -12},
        };
        for (int[] r : refused) {
            DUE.is("refused copy " + java.util.Arrays.toString(r), x.copy(r[0], r[1], r[2], r[3], r[4]), r[5]);
        }
        is(x, 0, 11, 12, 13, 14);
        is(x, 1, 21, 22, 23);
    }

    private static void copyOverItself() {
        StairLines x = new StairLines();
        Due.row(x, 0, 1, 2, 3, 4, 5);
        DUE.is("down", x.copy(0, 0, 0, 1, 4), 4);
        is(x, 0, 1, 1, 2, 3, 4);
        Due.row(x, 0, 1, 2, 3, 4, 5);
        DUE.is("up", x.copy(0, 1, 0, 0, 4), 4);
        is(x, 0, 2, 3, 4, 5, 5);
    }

    private static void classes() {
        StairLines x = new StairLines();
        Due.row(x, 0, 99, 5, 1, 23, 0, 1, 1, 60, 9, 1999, 7, 10, 1, 8, 2, 11);
        DUE.is("none of them", x.classes(0, 2, 1, 0), 0);
        DUE.is("three of five", x.classes(0, 2, 1, 5), 3);
        int[][] due = {{5, 1, 2, 3, 5}, {60, 9, 199, 9, 60}, {8, 2, 1, 1, 8}};
        for (int c = 0; c < 3; c++) {
            for (int what = 5; what < 10; what++) {
                DUE.is("class " + c + " told " + what, x.told(c, what), due[c][what - 5]);
            }
        }
        DUE.is("two more have room", x.classes(0, 2, 1, 5), 2);
        DUE.is("none more", x.classes(0, 2, 1, 5), 0);
        DUE.is("five", x.count(0), 5);
    }

    private static void classesBySorts() {
        StairLines x = new StairLines();
        for (int sort = 0; sort < 3; sort++) {
            x.sheet(sort, sort, 3);
            x.cell(sort, 0, 3);
            x.cell(sort, 1, 4);
            x.cell(sort, 2, 125);
            for (int taken = 0; taken < 3; taken++) {
                DUE.is("sort " + sort + " for " + taken, x.classes(sort, taken, 0, 1), taken == sort ? 1 : -13);
            }
            DUE.is("bell", x.told(sort, 7), 12);
            DUE.is("every", x.told(sort, 8), 5);
        }
        // a byte is one of Java's: 201 is -55 in it
        x.cell(0, 2, 201);
        DUE.is("below 0", x.classes(0, 0, 0, 1), 0);
        x.cell(1, 2, 201);
        DUE.is("a short", x.classes(1, 1, 0, 1), 1);
    }

    private static void classesRefuse() {
        StairLines x = new StairLines();
        x.sheet(0, 1, 6);
        int[][] refused = {{-1, 1, 0, 1, -2}, {4, 1, 0, 1, -2}, {0, -1, 0, 1, -2}, {0, 3, 0, 1, -2}, {0, 1, 0, -1, -2},
            {0, 1, 0, 6, -2}, {0, 0, 0, 6, -2}, {0, 0, 0, 1, -13}, {0, 2, 9, 1, -13}, {0, 2, 0, 0, -13}, {1, 0, 0, 1, -11},
            {1, 0, 0, 0, -11}, {1, 2, -1, 1, -11}, {0, 1, -1, 1, -12}, {0, 1, 4, 1, -12}, {0, 1, 6, 1, -12},
            {0, 1, Integer.MAX_VALUE, 5, -12}, {0, 1, Integer.MIN_VALUE, 5, -12}, {0, 1, 3, 1, 0}, {0, 1, 0, 2, 0},
            {0, 1, 0, 3, -12}};
        for (int[] r : refused) {
            DUE.is("refused classes " + java.util.Arrays.toString(r), x.classes(r[0], r[1], r[2], r[3]), r[4]);
        }
        DUE.is("none came", x.count(0), 0);
    }

    private static void classesStopOutside() {
        StairLines x = new StairLines();
        Due.row(x, 0, 1, 1, 1, 2, 2, 2, 3, 3);
        DUE.is("outside", x.classes(0, 2, 0, 3), -12);
        DUE.is("what stood ahead came", x.count(0), 2);
        DUE.is("first", x.told(0, 5), 1);
        DUE.is("second", x.told(1, 5), 2);
    }

    private static void taken() {
        StairLines x = new StairLines();
        boolean[][] under = {
            {true, false, false, false, false, false},
            {true, true, false, false, false, false},
            {true, false, true, false, false, false},
            {true, true, false, true, false, false},
            {true, false, true, false, true, false},
            {true, true, false, false, false, true},
        };
        for (int kind = 0; kind < 6; kind++) {
            x.step(kind, kind, kind + 2);
            for (int k = 0; k < 6; k++) {
                DUE.is(kind + " taken for " + k, x.taken(kind, k), under[kind][k] ? kind + 2 : -13);
            }
        }
        int[][] refused = {{0, -1, -2}, {0, 6, -2}, {-1, 0, -11}, {10, 0, -11}, {10, 6, -2}, {-1, -1, -2},
            {Integer.MAX_VALUE, 5, -11}, {0, Integer.MIN_VALUE, -2}};
        for (int[] r : refused) {
            DUE.is("refused taken", x.taken(r[0], r[1]), r[2]);
        }
    }
}
