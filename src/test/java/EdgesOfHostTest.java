/** Promises 25 to 29 at their edges: each test is of one sentence of the document that names a bound. */
public final class EdgesOfHostTest {
    private static final Due DUE = new Due();
    private static final Edges EDGES = new Edges(DUE);
    private static final int BAD = StairLines.BAD, NONE = StairLines.NONE;
    private static final int MISSING = Edges.MISSING, OUTSIDE = Edges.OUTSIDE, OTHER_SORT = Edges.OTHER_SORT;
    private static final int BELOW_ZERO = Edges.BELOW_ZERO, MIN = Edges.MIN, MAX = Edges.MAX;

    public static void main(String[] args) {
        DUE.promise(25);
        sheetsAre0To3();
        sortsAre0To2();
        rowsAreOf40AtMost();
        rowsBelow0();
        sheetNamesItsRefusalsInOrder();
        missingWhateverN();
        allAre0();
        shorterAndLonger();
        DUE.promise(19, 26, 27, 28);
        allAreMissingAtFirst();
        DUE.promise(26);
        cellOfSheets();
        cellOfItems();
        cellOfAnEmptyRow();
        cellNamesItsRefusalsInOrder();
        lowest8Bits();
        lowest16Bits();
        all32Bits();
        DUE.promise(27);
        copyOfSheets();
        copyOfMissing();
        copyOfUnlikeSorts();
        copyOfNoneAtTheEnds();
        copyToTheLastItem();
        copyFromTheLastItem();
        copyBelow0();
        copyBeyondAllNumbers();
        copyNamesItsRefusalsInOrder();
        copyAsTheyWere();
        copyOfAll40();
        DUE.promise(28);
        classesOfSheets();
        classesOfSorts();
        classesOf0To5();
        classesOfMissing();
        classesOfUnlikeSorts();
        classesToTheLastItem();
        classesBeyondAllNumbers();
        classesOfNone();
        whatStoodAheadCame();
        othersAreLeftOut();
        classesWhenFull();
        classesNameTheirRefusalsInOrder();
        DUE.promise(29);
        takenOfKinds();
        takenOfSteps();
        takenUnderOthers();
        takenOfWidths();
        takenNamesItsRefusalsInOrder();
        DUE.end();
    }

    /** What stands on a sheet, told by classes of these sizes, whose floor and bell are 0: sheet 3 is used for it. */
    private static void holds(StairLines x, int sheet, int sort, int... cells) {
        DUE.is("it is no longer", x.cell(sheet, cells.length, 1), OUTSIDE);
        for (int i = 0; i < cells.length; i++) {
            x.sheet(3, sort, 3);
            DUE.is("item " + i, x.copy(sheet, i, 3, 0, 1), 1);
            x.cell(3, 2, 1);
            x.image();
            DUE.is("item " + i + " is a size", x.classes(3, sort, 0, 1), cells[i] >= 1 && cells[i] <= 60 ? 1 : 0);
            DUE.is("item " + i, x.told(x.count(0) - 1, 5), cells[i]);
            x.back();
            x.sheet(3, -1, 0);
        }
    }

    private static StairLines twoRows() {
        StairLines x = new StairLines();
        Due.row(x, 0, 11, 12, 13, 14);
        Due.row(x, 1, 21, 22, 23);
        return x;
    }

    // ---- sheet

    /** "missing (as all are at first)". */
    private static void allAreMissingAtFirst() {
        EDGES.refuses("cell", MISSING, Edges::fresh, (x, v) -> x.cell(v, 0, 1), 0, 1, 2, 3);
        EDGES.refuses("classes", MISSING, Edges::fresh, (x, v) -> x.classes(v, 2, 0, 1), 0, 1, 2, 3);
        EDGES.refuses("copy", MISSING, Edges::fresh, (x, v) -> x.copy(v, 0, v, 0, 0), 0, 1, 2, 3);
        EDGES.refuses("judge", MISSING, Edges::fresh, (x, v) -> x.judge(0, v), 0, 1, 2, 3);
    }

    /** "SHEETS 0 .. 3". */
    private static void sheetsAre0To3() {
        EDGES.bounds("sheet", BAD, Edges::busy, (x, v) -> x.sheet(v, 0, 4), 0, 3);
        EDGES.bounds("sheet that becomes missing", BAD, Edges::busy, (x, v) -> x.sheet(v, -1, 4), 0, 3);
    }

    /** "of sort 0 bytes, 1 shorts, 2 ints"; "missing (sort -1". */
    private static void sortsAre0To2() {
        EDGES.bounds("sort", BAD, Edges::busy, (x, v) -> x.sheet(2, v, 4), -1, 2);
        for (int sort = 0; sort < 3; sort++) {
            for (int sheet = 0; sheet < 4; sheet++) {
                StairLines x = new StairLines();
                DUE.is("it becomes one", x.sheet(sheet, sort, 3), 1);
                for (int other = 0; other < 3; other++) {
                    DUE.is("it is of sort " + sort, x.classes(sheet, other, 0, 1), other == sort ? 0 : OTHER_SORT);
                }
            }
        }
    }

    /** "n above 40". */
    private static void rowsAreOf40AtMost() {
        for (int sort = 0; sort < 3; sort++) {
            int of = sort;
            EDGES.takes("length", Edges::busy, (x, v) -> x.sheet(2, of, v), 0, 1, 39, 40);
            EDGES.refuses("length", BAD, Edges::busy, (x, v) -> x.sheet(2, of, v), 41, 42, 400, MAX);
            StairLines x = new StairLines();
            x.sheet(0, sort, 40);
            DUE.is("the last item", x.cell(0, 39, 1), 1);
            DUE.is("none behind it", x.cell(0, 40, 1), OUTSIDE);
        }
    }

    /** "-14 a size below 0". */
    private static void rowsBelow0() {
        for (int sort = 0; sort < 3; sort++) {
            int of = sort;
            EDGES.refuses("length", BELOW_ZERO, Edges::busy, (x, v) -> x.sheet(1, of, v), -1, -2, -40, MIN);
            EDGES.refuses("length of a missing one", BELOW_ZERO, Edges::busy, (x, v) -> x.sheet(3, of, v), -1, MIN);
        }
    }

    /** "BAD: no such SHEET, sort; n above 40; -14". */
    private static void sheetNamesItsRefusalsInOrder() {
        EDGES.refuses("sheet ahead of length", BAD, Edges::busy, (x, v) -> x.sheet(v, 0, -1), -1, 4);
        EDGES.refuses("sort ahead of length", BAD, Edges::busy, (x, v) -> x.sheet(0, v, -1), -2, 3);
        EDGES.refuses("sheet ahead of missing", BAD, Edges::busy, (x, v) -> x.sheet(v, -1, 0), -1, 4);
    }

    /** "(sort -1: n does not matter)". */
    private static void missingWhateverN() {
        for (int n : new int[] {0, 1, 40, 41, -1, MIN, MAX}) {
            StairLines x = Edges.busy();
            for (int sheet = 0; sheet < 4; sheet++) {
                DUE.is("n " + n, x.sheet(sheet, -1, n), 1);
                DUE.is("it is missing", x.cell(sheet, 0, 1), MISSING);
            }
        }
    }

    /** "a row of n of a sort, all 0". */
    private static void allAre0() {
        for (int sort = 0; sort < 3; sort++) {
            StairLines x = new StairLines();
            for (int n : new int[] {40, 3, 40}) {
                x.sheet(0, sort, n);
                DUE.is("all 0", x.judge(0, 0), NONE);
                for (int i = 0; i < n; i++) {
                    x.cell(0, i, 77);
                }
                DUE.is("not 0", x.judge(0, 0), 0);
            }
            x.sheet(0, -1, 0);
            x.sheet(0, (sort + 1) % 3, 40);
            DUE.is("all 0 again", x.judge(0, 0), NONE);
        }
    }

    private static void shorterAndLonger() {
        StairLines x = new StairLines();
        int[] lengths = {40, 0, 1, 39, 5};
        for (int n : lengths) {
            x.sheet(1, 2, n);
            DUE.is("the first of " + n, x.cell(1, 0, 1), n > 0 ? 1 : OUTSIDE);
            DUE.is("the last of " + n, x.cell(1, n - 1, 1), n > 0 ? 1 : OUTSIDE);
            DUE.is("behind the last of " + n, x.cell(1, n, 1), OUTSIDE);
        }
    }

    // ---- cell

    private static void cellOfSheets() {
        EDGES.takes("sheet of cell", Edges::busy, (x, v) -> x.cell(v, 0, 1), 0, 1, 2);
        EDGES.refuses("sheet of cell", BAD, Edges::busy, (x, v) -> x.cell(v, 0, 1), -1, 4, MIN, MAX);
        EDGES.refuses("missing sheet of cell", MISSING, Edges::busy, (x, v) -> x.cell(v, 0, 1), 3);
    }

    /** "-12 a place outside". */
    private static void cellOfItems() {
        int[] lengths = {12, 9, 6};
        for (int sheet = 0; sheet < 3; sheet++) {
            int of = sheet;
            EDGES.bounds("item", OUTSIDE, Edges::busy, (x, v) -> x.cell(of, v, 1), 0, lengths[sheet] - 1);
        }
        StairLines x = twoRows();
        x.cell(0, 0, 1);
        x.cell(0, 3, 4);
        holds(x, 0, 2, 1, 12, 13, 4);
        holds(x, 1, 2, 21, 22, 23);
    }

    private static void cellOfAnEmptyRow() {
        Edges.Build empty = () -> {
            StairLines x = Edges.busy();
            x.sheet(3, 1, 0);
            return x;
        };
        EDGES.refuses("item of none", OUTSIDE, empty, (x, v) -> x.cell(3, v, 1), 0, -1, 1, MIN, MAX);
    }

    /** "BAD: no such SHEET; -11; -12". */
    private static void cellNamesItsRefusalsInOrder() {
        EDGES.refuses("sheet ahead of outside", BAD, Edges::busy, (x, v) -> x.cell(v, -1, 1), -1, 4);
        EDGES.refuses("missing ahead of outside", MISSING, Edges::busy, (x, v) -> x.cell(3, v, 1), -1, 0, 40, MAX);
    }

    /** "(of bytes .. its lowest 8 .. bits)". */
    private static void lowest8Bits() {
        StairLines x = new StairLines();
        x.sheet(0, 0, 3);
        int[][] cells = {{1, 1}, {60, 60}, {127, 127}, {128, -128}, {255, -1}, {256, 0}, {257, 1}, {256 + 60, 60}, {-255, 1},
            {-196, 60}, {65536 + 7, 7}, {MIN, 0}, {MIN + 9, 9}, {MAX, -1}, {MAX - 246, 9}, {-128, -128}, {-129, 127}};
        for (int[] c : cells) {
            x.cell(0, 0, c[0]);
            asASize(x, 0, c[0], c[1]);
            asABellAndEvery(x, 0, c[0], c[1]);
        }
    }

    /** "(of .. shorts its lowest .. 16 bits)". */
    private static void lowest16Bits() {
        StairLines x = new StairLines();
        x.sheet(0, 1, 3);
        int[][] cells = {{1, 1}, {60, 60}, {128, 128}, {255, 255}, {256 + 7, 256 + 7}, {1999, 1999}, {65536, 0}, {65537, 1},
            {65536 + 1999, 1999}, {-65535, 1}, {32767, 32767}, {32768, -32768}, {65535, -1}, {MIN, 0}, {MIN + 1999, 1999},
            {MAX, -1}, {MAX - 65535 + 9, 9}};
        for (int[] c : cells) {
            x.cell(0, 0, c[0]);
            asASize(x, 1, c[0], c[1]);
            asABellAndEvery(x, 1, c[0], c[1]);
        }
    }

    private static void all32Bits() {
        StairLines x = new StairLines();
        x.sheet(0, 2, 3);
        for (int v : new int[] {1, 60, 128, 256 + 7, 1999, 65536 + 7, MIN, MIN + 9, MAX, MAX - 246, -255}) {
            x.cell(0, 0, v);
            asASize(x, 2, v, v);
            asABellAndEvery(x, 2, v, v);
        }
    }

    /** Item 0 of sheet 0, which is as it became by v, taken for a size. */
    private static void asASize(StairLines x, int sort, int v, int is) {
        x.image();
        x.cell(0, 1, 0);
        x.cell(0, 2, 1);
        boolean fits = is >= 1 && is <= 60;
        DUE.is(v + " of sort " + sort + " is a size", x.classes(0, sort, 0, 1), fits ? 1 : 0);
        DUE.is(v + " of sort " + sort, x.told(0, 5), fits ? is : BAD);
        x.back();
    }

    private static void asABellAndEvery(StairLines x, int sort, int v, int is) {
        x.image();
        x.copy(0, 0, 0, 2, 1);
        x.cell(0, 0, 1);
        x.cell(0, 1, 0);
        boolean fits = is >= 1 && is <= 1999 && is % 10 != 0;
        DUE.is(v + " of sort " + sort + " is a bell", x.classes(0, sort, 0, 1), fits ? 1 : 0);
        DUE.is(v + " of sort " + sort + ", bell", x.told(0, 7), fits ? is / 10 : BAD);
        DUE.is(v + " of sort " + sort + ", every", x.told(0, 8), fits ? is % 10 : BAD);
        x.back();
    }

    // ---- copy

    private static void copyOfSheets() {
        EDGES.takes("sheet of copy", Edges::busy, (x, v) -> x.copy(v, 0, v, 0, 1), 0, 1, 2);
        EDGES.refuses("sheet of copy", BAD, Edges::busy, (x, v) -> x.copy(v, 0, 0, 0, 1), -1, 4, MIN, MAX);
        EDGES.refuses("other of copy", BAD, Edges::busy, (x, v) -> x.copy(0, 0, v, 0, 1), -1, 4, MIN, MAX);
    }

    private static void copyOfMissing() {
        EDGES.refuses("missing sheet of copy", MISSING, Edges::busy, (x, v) -> x.copy(3, 0, v, 0, 1), 0, 1, 2, 3);
        EDGES.refuses("missing other of copy", MISSING, Edges::busy, (x, v) -> x.copy(v, 0, 3, 0, 1), 0, 1, 2);
        EDGES.refuses("missing, and none", MISSING, Edges::busy, (x, v) -> x.copy(v, 0, 3, 0, 0), 0, 1, 2, 3);
    }

    /** "-13: they are of unlike sorts". */
    private static void copyOfUnlikeSorts() {
        for (int sheet = 0; sheet < 3; sheet++) {
            int of = sheet;
            int a = (sheet + 1) % 3;
            int b = (sheet + 2) % 3;
            EDGES.refuses("unlike sorts", OTHER_SORT, Edges::busy, (x, v) -> x.copy(of, 0, v, 0, 1), a, b);
            EDGES.refuses("unlike sorts, and none", OTHER_SORT, Edges::busy, (x, v) -> x.copy(of, 0, v, 0, 0), a, b);
        }
    }

    /** n is 0: any item there is, and the place behind the last. */
    private static void copyOfNoneAtTheEnds() {
        EDGES.refuses("none from", 0, EdgesOfHostTest::twoRows, (x, v) -> x.copy(0, v, 1, 0, 0), 0, 1, 3, 4);
        EDGES.refuses("none to", 0, EdgesOfHostTest::twoRows, (x, v) -> x.copy(0, 0, 1, v, 0), 0, 2, 3);
        EDGES.refuses("none from", OUTSIDE, EdgesOfHostTest::twoRows, (x, v) -> x.copy(0, v, 1, 0, 0), -1, 5, MIN, MAX);
        EDGES.refuses("none to", OUTSIDE, EdgesOfHostTest::twoRows, (x, v) -> x.copy(0, 0, 1, v, 0), -1, 4, MIN, MAX);
        StairLines x = twoRows();
        x.sheet(2, 2, 0);
        DUE.is("none of none", x.copy(2, 0, 2, 0, 0), 0);
        DUE.is("none of none to another", x.copy(2, 0, 0, 4, 0), 0);
        DUE.is("one of none", x.copy(2, 0, 0, 0, 1), OUTSIDE);
        DUE.is("one to none", x.copy(0, 0, 2, 0, 1), OUTSIDE);
    }

    /** Item j and n more end with the other sheet, or beyond it. */
    private static void copyToTheLastItem() {
        for (int n = 1; n <= 3; n++) {
            int of = n;
            StairLines x = twoRows();
            DUE.is("the last " + n, x.copy(0, 0, 1, 3 - n, n), n);
            int[] due = {21, 22, 23};
            for (int i = 0; i < n; i++) {
                due[3 - n + i] = 11 + i;
            }
            holds(x, 1, 2, due);
            EDGES.refuses("one beyond the last " + n, OUTSIDE, EdgesOfHostTest::twoRows, (y, v) -> y.copy(0, 0, 1, v, of),
                4 - n, 3, -1);
        }
        EDGES.refuses("more than it has", OUTSIDE, EdgesOfHostTest::twoRows, (x, v) -> x.copy(0, 0, 1, 0, v), 4, 5, 41);
    }

    /** Item i and n more end with the sheet, or beyond it. */
    private static void copyFromTheLastItem() {
        for (int n = 1; n <= 3; n++) {
            int of = n;
            StairLines x = twoRows();
            DUE.is("the last " + n, x.copy(0, 4 - n, 1, 0, n), n);
            int[] due = {21, 22, 23};
            for (int i = 0; i < n; i++) {
                due[i] = 15 - n + i;
            }
            holds(x, 1, 2, due);
            holds(x, 0, 2, 11, 12, 13, 14);
            EDGES.refuses("one beyond the last " + n, OUTSIDE, EdgesOfHostTest::twoRows, (y, v) -> y.copy(0, v, 1, 0, of),
                5 - n, 4, -1);
        }
        EDGES.refuses("more than it has", OUTSIDE, EdgesOfHostTest::twoRows, (x, v) -> x.copy(1, 0, 0, 0, v), 4, 5, 41);
    }

    /** "-12 (also with n below 0)". */
    private static void copyBelow0() {
        EDGES.refuses("n", OUTSIDE, EdgesOfHostTest::twoRows, (x, v) -> x.copy(0, 2, 1, 2, v), -1, -2, -3, MIN);
        EDGES.refuses("n to itself", OUTSIDE, EdgesOfHostTest::twoRows, (x, v) -> x.copy(0, 2, 0, 2, v), -1, -2, -3, MIN);
    }

    /** Places whose sum with n would wrap. */
    private static void copyBeyondAllNumbers() {
        EDGES.refuses("item", OUTSIDE, EdgesOfHostTest::twoRows, (x, v) -> x.copy(0, v, 1, 0, 2), MAX, MAX - 1, MIN, -2);
        EDGES.refuses("other item", OUTSIDE, EdgesOfHostTest::twoRows, (x, v) -> x.copy(0, 0, 1, v, 2), MAX, MAX - 1, MIN, -2);
        EDGES.refuses("n", OUTSIDE, EdgesOfHostTest::twoRows, (x, v) -> x.copy(0, 1, 1, 1, v), MAX, MAX - 1, MIN);
        EDGES.refuses("all", OUTSIDE, EdgesOfHostTest::twoRows, (x, v) -> x.copy(0, v, 1, v, v), MAX, MIN, -1);
    }

    /** "BAD: no such SHEET; -11; -13: they are of unlike sorts; -12". */
    private static void copyNamesItsRefusalsInOrder() {
        EDGES.refuses("sheet ahead of missing", BAD, Edges::busy, (x, v) -> x.copy(v, 0, 3, 0, 1), -1, 4);
        EDGES.refuses("other ahead of missing", BAD, Edges::busy, (x, v) -> x.copy(3, 0, v, 0, 1), -1, 4);
        EDGES.refuses("missing ahead of outside", MISSING, Edges::busy, (x, v) -> x.copy(3, v, 0, v, v), -1, 41);
        EDGES.refuses("missing other ahead of outside", MISSING, Edges::busy, (x, v) -> x.copy(0, v, 3, v, v), -1, 41);
        EDGES.refuses("unlike ahead of outside", OTHER_SORT, Edges::busy, (x, v) -> x.copy(0, v, 1, 0, 1), -1, 12, MAX);
        EDGES.refuses("unlike ahead of outside", OTHER_SORT, Edges::busy, (x, v) -> x.copy(0, 0, 1, v, 1), -1, 9, MAX);
        EDGES.refuses("unlike ahead of n", OTHER_SORT, Edges::busy, (x, v) -> x.copy(0, 0, 1, 0, v), -1, 13, MIN);
    }

    /** "(as they were)": of one sheet that lies over itself. */
    private static void copyAsTheyWere() {
        StairLines x = new StairLines();
        Due.row(x, 0, 1, 2, 3, 4, 5);
        DUE.is("one on", x.copy(0, 0, 0, 1, 4), 4);
        holds(x, 0, 2, 1, 1, 2, 3, 4);
        Due.row(x, 0, 1, 2, 3, 4, 5);
        DUE.is("one back", x.copy(0, 1, 0, 0, 4), 4);
        holds(x, 0, 2, 2, 3, 4, 5, 5);
        Due.row(x, 0, 1, 2, 3, 4, 5);
        DUE.is("where it is", x.copy(0, 0, 0, 0, 5), 5);
        holds(x, 0, 2, 1, 2, 3, 4, 5);
        DUE.is("two on", x.copy(0, 1, 0, 3, 2), 2);
        holds(x, 0, 2, 1, 2, 3, 2, 3);
    }

    private static void copyOfAll40() {
        StairLines x = Edges.stuck(2);
        for (int sort = 0; sort < 3; sort++) {
            x.sheet(0, sort, 40);
            x.sheet(1, sort, 40);
            for (int i = 0; i < 40; i++) {
                x.cell(0, i, 2);
            }
            DUE.is("all but the last", x.copy(0, 0, 1, 0, 39), 39);
            DUE.is("the last is 0", x.judge(9, 1), 39);
            DUE.is("one more than all", x.copy(0, 0, 1, 0, 41), OUTSIDE);
            DUE.is("all", x.copy(0, 0, 1, 0, 40), 40);
            DUE.is("none is 0", x.judge(9, 1), NONE);
        }
    }

    // ---- classes

    private static void classesOfSheets() {
        EDGES.takes("sheet of classes", Edges::busy, (x, v) -> x.classes(v, v, 0, 2), 0, 1, 2);
        EDGES.refuses("sheet of classes", BAD, Edges::busy, (x, v) -> x.classes(v, 0, 0, 2), -1, 4, MIN, MAX);
    }

    private static void classesOfSorts() {
        EDGES.refuses("sort of classes", BAD, Edges::busy, (x, v) -> x.classes(0, v, 0, 2), -1, 3, MIN, MAX);
        EDGES.refuses("sort of classes by none", BAD, Edges::busy, (x, v) -> x.classes(3, v, 0, 2), -1, 3);
    }

    /** A stair without classes, and a row of 40 ints that are 1. */
    private static StairLines ones() {
        StairLines x = new StairLines();
        x.sheet(0, 2, 40);
        for (int i = 0; i < 40; i++) {
            x.cell(0, i, 1);
        }
        return x;
    }

    /** "n of them (0 .. 5)". */
    private static void classesOf0To5() {
        EDGES.bounds("n of classes", BAD, EdgesOfHostTest::ones, (x, v) -> x.classes(0, 2, 0, v), 0, 5);
        for (int n = 0; n <= 5; n++) {
            StairLines x = ones();
            DUE.is("so many come", x.classes(0, 2, 7, n), n);
            DUE.is("so many are there", x.count(0), n);
        }
    }

    private static void classesOfMissing() {
        EDGES.refuses("missing", MISSING, Edges::busy, (x, v) -> x.classes(3, v, 0, 1), 0, 1, 2);
        EDGES.refuses("missing, and none", MISSING, Edges::busy, (x, v) -> x.classes(3, v, 0, 0), 0, 1, 2);
    }

    /** "-13": taken for one of a sort that it is not of. */
    private static void classesOfUnlikeSorts() {
        for (int sheet = 0; sheet < 3; sheet++) {
            int of = sheet;
            int a = (sheet + 1) % 3;
            int b = (sheet + 2) % 3;
            EDGES.refuses("another sort", OTHER_SORT, Edges::busy, (x, v) -> x.classes(of, v, 0, 2), a, b);
            EDGES.refuses("another sort, and none", OTHER_SORT, Edges::busy, (x, v) -> x.classes(of, v, 0, 0), a, b);
        }
    }

    /** "from one on, three by three": till the last item, or one beyond it. */
    private static void classesToTheLastItem() {
        for (int n = 1; n <= 5; n++) {
            int of = n;
            DUE.is("the last " + n, ones().classes(0, 2, 40 - 3 * n, n), n);
            for (int beyond = 1; beyond <= 3; beyond++) {
                StairLines x = ones();
                DUE.is("the last one is outside", x.classes(0, 2, 40 - 3 * n + beyond, n), OUTSIDE);
                DUE.is("the others came", x.count(0), n - 1);
            }
            EDGES.refuses("from outside", OUTSIDE, EdgesOfHostTest::ones, (x, v) -> x.classes(0, 2, v, of), -1, -3, 38, 39, 40);
        }
        StairLines x = new StairLines();
        for (int length = 0; length <= 3; length++) {
            x.sheet(0, 1, length);
            for (int i = 0; i < length; i++) {
                x.cell(0, i, 1);
            }
            DUE.is("a row of " + length, x.classes(0, 1, 0, 1), length < 3 ? OUTSIDE : 1);
        }
    }

    /** Places that would wrap. */
    private static void classesBeyondAllNumbers() {
        for (int n : new int[] {1, 2, 5}) {
            EDGES.refuses("from", OUTSIDE, EdgesOfHostTest::ones, (x, v) -> x.classes(0, 2, v, n), MAX, MAX - 2, MAX - 5, MIN,
                MIN + 1, -2, -6);
        }
    }

    /** n is 0: no place is looked at. */
    private static void classesOfNone() {
        EDGES.refuses("none from", 0, Edges::busy, (x, v) -> x.classes(0, 0, v, 0), 0, 1, 11, 12);
        EDGES.refuses("none of five", 0, Edges::full, (x, v) -> {
            x.sheet(0, 0, 3);
            int came = x.classes(0, 0, v, 0);
            x.sheet(0, -1, 0);
            return came;
        }, 0, 3);
    }

    /** "-12: what stood ahead came". */
    private static void whatStoodAheadCame() {
        for (int length = 3; length <= 14; length++) {
            StairLines x = new StairLines();
            x.sheet(0, 2, length);
            for (int i = 0; i < length; i++) {
                x.cell(0, i, i % 3 == 0 ? 10 + i : i % 3 == 1 ? 9 : 25);
            }
            DUE.is("outside", x.classes(0, 2, 0, 5), OUTSIDE);
            DUE.is("as many as stood there", x.count(0), length / 3);
            for (int c = 0; c < length / 3; c++) {
                DUE.is("size", x.told(c, 5), 10 + 3 * c);
                DUE.is("floor", x.told(c, 6), 9);
                DUE.is("bell", x.told(c, 7), 2);
                DUE.is("every", x.told(c, 8), 5);
                DUE.is("in", x.told(c, 9), 10 + 3 * c);
            }
            DUE.is("none behind them", x.told(length / 3, 5), BAD);
        }
    }

    /** "(others are left out)": the sizes, floors, bells and everies beside the bounds. */
    private static void othersAreLeftOut() {
        int[][] out = {{0, 0, 1}, {61, 0, 1}, {1, -1, 1}, {1, 10, 1}, {1, 0, 0}, {1, 0, 10}, {1, 0, 2001}, {1, 0, -1},
            {MIN, 0, 1}, {1, MAX, 1}, {1, 0, MIN}};
        for (int[] o : out) {
            StairLines x = new StairLines();
            Due.row(x, 0, 1, 0, 1, o[0], o[1], o[2], 60, 9, 1999);
            DUE.is("both beside it came", x.classes(0, 2, 0, 3), 2);
            DUE.is("the first", x.told(0, 5), 1);
            DUE.is("the second", x.told(1, 5), 60);
            DUE.is("two", x.count(0), 2);
            EDGES.refuses("alone", 0, () -> {
                StairLines y = Edges.busy();
                Due.row(y, 3, o);
                return y;
            }, (y, v) -> y.classes(3, 2, v, 1), 0);
        }
    }

    /** FULL ones are left out as well, and places outside are still refused. */
    private static void classesWhenFull() {
        for (int had = 0; had <= 5; had++) {
            StairLines x = ones();
            for (int c = 0; c < had; c++) {
                x.come(2, 0, 1);
            }
            DUE.is("as many as have room", x.classes(0, 2, 0, 5), 5 - had);
            DUE.is("five", x.count(0), 5);
            DUE.is("none more", x.classes(0, 2, 0, 5), 0);
            DUE.is("outside when full", x.classes(0, 2, 38, 1), OUTSIDE);
        }
    }

    /** "BAD: no such SHEET, sort, n; -13; -11; -12". */
    private static void classesNameTheirRefusalsInOrder() {
        EDGES.refuses("n ahead of missing", BAD, Edges::busy, (x, v) -> x.classes(3, 0, 0, v), -1, 6);
        EDGES.refuses("n ahead of another sort", BAD, Edges::busy, (x, v) -> x.classes(0, 1, 0, v), -1, 6);
        EDGES.refuses("n ahead of outside", BAD, Edges::busy, (x, v) -> x.classes(0, 0, -1, v), -1, 6, MIN, MAX);
        EDGES.refuses("sheet ahead of outside", BAD, Edges::busy, (x, v) -> x.classes(v, 0, -1, 1), -1, 4);
        EDGES.refuses("missing ahead of outside", MISSING, Edges::busy, (x, v) -> x.classes(3, 0, v, 5), -1, 40, MIN, MAX);
        EDGES.refuses("another sort ahead of outside", OTHER_SORT, Edges::busy, (x, v) -> x.classes(0, 1, v, 5), -1, 40, MIN);
    }

    // ---- taken

    /** "KIND k (0 .. 5)". */
    private static void takenOfKinds() {
        // the steps 2, 4, 6, 8, 9 of the busy one are of the kinds 2, 1, 3, 4, 5
        EDGES.refuses("kind", BAD, Edges::busy, (x, v) -> x.taken(2, v), -1, 6, MIN, MAX);
        int[] ofKind = {0, 4, 2, 6, 8, 9};
        for (int k = 0; k <= 5; k++) {
            int kind = k;
            EDGES.takes("step of kind " + k, Edges::busy, (x, v) -> x.taken(v, kind), ofKind[k]);
        }
    }

    /** "-11: no such STEP". */
    private static void takenOfSteps() {
        EDGES.bounds("step of taken", MISSING, Edges::busy, (x, v) -> x.taken(v, 0), 0, 9);
    }

    /** "or one under that one (also by others between)"; "-13". */
    private static void takenUnderOthers() {
        String[] under = {"0", "01", "02", "013", "024", "015"};
        for (int kind = 0; kind <= 5; kind++) {
            for (int s : new int[] {0, 9}) {
                StairLines x = new StairLines();
                x.step(s, kind, 7);
                for (int k = 0; k <= 5; k++) {
                    boolean is = under[kind].indexOf('0' + k) >= 0;
                    DUE.is(kind + " taken for " + k, x.taken(s, k), is ? 7 : OTHER_SORT);
                }
            }
        }
        EDGES.refuses("a stair for", OTHER_SORT, Edges::busy, (x, v) -> x.taken(0, v), 1, 2, 3, 4, 5);
        EDGES.refuses("a turn for", OTHER_SORT, Edges::busy, (x, v) -> x.taken(4, v), 2, 3, 4, 5);
        EDGES.refuses("a gate for", OTHER_SORT, Edges::busy, (x, v) -> x.taken(8, v), 1, 3, 5);
        EDGES.refuses("a laced turn for", OTHER_SORT, Edges::busy, (x, v) -> x.taken(9, v), 2, 3, 4);
    }

    /** "its WIDTH", 1 to 9. */
    private static void takenOfWidths() {
        StairLines x = new StairLines();
        DUE.is("at first", x.taken(0, 0), 2);
        for (int width = 1; width <= 9; width++) {
            x.step(3, 5, width);
            DUE.is("as laced", x.taken(3, 5), width);
            DUE.is("as a turn", x.taken(3, 1), width);
            DUE.is("as a stair", x.taken(3, 0), width);
        }
    }

    /** "BAD: k; -11: no such STEP; -13". */
    private static void takenNamesItsRefusalsInOrder() {
        EDGES.refuses("kind ahead of step", BAD, Edges::busy, (x, v) -> x.taken(10, v), -1, 6);
        EDGES.refuses("kind ahead of step", BAD, Edges::busy, (x, v) -> x.taken(-1, v), -1, 6);
        EDGES.refuses("step, whatever kind", MISSING, Edges::busy, (x, v) -> x.taken(10, v), 0, 1, 5);
        EDGES.refuses("step, whatever kind", MISSING, Edges::busy, (x, v) -> x.taken(-1, v), 0, 1, 5);
    }
}
