/** Promises 1 to 5 at their edges: each test is of one sentence of the document that names a bound. */
public final class EdgesOfStepsAndClassesTest {
    private static final Due DUE = new Due();
    private static final Edges EDGES = new Edges(DUE);
    private static final int BAD = StairLines.BAD, STATE = StairLines.STATE, FULL = StairLines.FULL;

    public static void main(String[] args) {
        DUE.promise(1);
        aNewObjectIsEmpty();
        DUE.promise(2);
        kindsAre0To5();
        widthsAre1To9();
        whoIsOnAStepStays();
        aStepHoldsAllWhoAreOnIt();
        badIsAheadOfState();
        DUE.promise(2, 5);
        stepsAre0To9();
        DUE.promise(3);
        sizesAre1To60();
        whatIsTenTimesBellAndEvery();
        fiveClassesAtMost();
        badIsAheadOfFull();
        DUE.promise(3, 4);
        floorsAreSteps();
        bellsAre0To199();
        everiesAre1To9();
        DUE.promise(4);
        setOfThree();
        DUE.promise(4, 5);
        classesAreNumberedFrom0();
        classesOfNone();
        DUE.promise(5);
        toldOfTen();
        toldOfStepsIsNotBoundByClasses();
        allAreInAsAClassComes();
        nobodyIsInAtLast();
        holdsAtTheLeastAndTheMostWide();
        passesAtTheLeastAndTheMostWide();
        passesAreToldBeforeTheyAreSlowed();
        DUE.promise(5, 9);
        aSharpTurnPassesOneAtLeast();
        aGatePassesInEvenTicks();
        aLacedTurnPassesNoneInSomeTicks();
        DUE.promise(9);
        theFirstStepIsTheHighest();
        behindStep9OneIsOut();
        theTickIs0To999();
        aTurnOfWidth1PassesNone();
        DUE.end();
    }

    /** "Ten STAIRS, no CLASSES"; 2 wide, none on them, THE TICK 0, none OUT, "TEXT 0 with them". */
    private static void aNewObjectIsEmpty() {
        StairLines x = new StairLines();
        for (int s = 0; s < 10; s++) {
            DUE.is("kind of new " + s, x.told(s, 0), 0);
            DUE.is("width of new " + s, x.told(s, 1), 2);
            DUE.is("on new " + s, x.told(s, 4), 0);
        }
        int[] counts = {0, 0, 0, 0, 0, 1, 0, 0};
        for (int what = 0; what < 8; what++) {
            DUE.is("new count " + what, x.count(what), counts[what]);
        }
    }

    /** "STEPS are 0 .. 9". */
    private static void stepsAre0To9() {
        EDGES.bounds("step", BAD, Edges::fresh, (x, v) -> x.step(v, 0, 9), 0, 9);
        EDGES.refuses("step", BAD, Edges::busy, (x, v) -> x.step(v, 0, 9), -1, 10);
        for (int what = 0; what <= 4; what++) {
            int of = what;
            EDGES.bounds("told " + what, BAD, Edges::busy, (x, v) -> x.told(v, of), 0, 9);
        }
    }

    /** "0 the highest": from each step one goes to the next number. */
    private static void theFirstStepIsTheHighest() {
        StairLines x = new StairLines();
        x.come(1, 0, 1);
        for (int s = 0; s < 10; s++) {
            x.tick();
            for (int other = 0; other < 10; other++) {
                DUE.is("on " + other + " behind tick " + s, x.told(other, 4), other == s ? 1 : 0);
            }
            DUE.is("out behind tick " + s, x.count(2), 0);
        }
    }

    /** "behind STEP 9 one is OUT". */
    private static void behindStep9OneIsOut() {
        StairLines x = new StairLines();
        x.come(1, 9, 1);
        x.come(1, 8, 1);
        x.tick();
        DUE.is("nobody yet", x.count(2), 0);
        x.tick();
        DUE.is("from step 9", x.count(2), 1);
        DUE.is("from step 8 to step 9", x.told(9, 4), 1);
        x.tick();
        DUE.is("from step 9 again", x.count(2), 2);
        DUE.is("nobody is on a step", x.count(3), 0);
    }

    /** "KIND: 0 STAIR .. 5 LACED". */
    private static void kindsAre0To5() {
        EDGES.bounds("kind", BAD, Edges::busy, (x, v) -> x.step(7, v, 9), 0, 5);
        StairLines x = new StairLines();
        int was = 0;
        for (int kind = 5; kind >= 0; kind--) {
            DUE.is("the kind that it was", x.step(7, kind, 9), was);
            DUE.is("the kind that it is", x.told(7, 0), kind);
            was = kind;
        }
    }

    /** "WIDTH (1 .. 9; 2 at first)". */
    private static void widthsAre1To9() {
        EDGES.bounds("width", BAD, Edges::fresh, (x, v) -> x.step(1, 0, v), 1, 9);
        EDGES.refuses("width", BAD, Edges::busy, (x, v) -> x.step(1, 0, v), 0, 10);
        StairLines x = new StairLines();
        x.step(1, 0, 1);
        x.step(8, 0, 9);
        DUE.is("the least", x.told(1, 1), 1);
        DUE.is("the most", x.told(8, 1), 9);
    }

    /** "SIZE (1 .. 60)". */
    private static void sizesAre1To60() {
        EDGES.bounds("size", BAD, Edges::busy, (x, v) -> x.come(v, 0, 1), 1, 60);
        StairLines x = new StairLines();
        x.come(1, 0, 1);
        x.come(60, 0, 1);
        DUE.is("least size", x.told(0, 5), 1);
        DUE.is("most size", x.told(1, 5), 60);
    }

    /** "FLOOR (the STEP on which they step)". */
    private static void floorsAreSteps() {
        EDGES.bounds("floor of come", BAD, Edges::busy, (x, v) -> x.come(1, v, 1), 0, 9);
        EDGES.bounds("floor of set", BAD, Edges::busy, (x, v) -> x.set(2, 2, v), 0, 9);
        StairLines x = new StairLines();
        x.come(1, 0, 1);
        x.come(1, 9, 1);
        x.tick();
        DUE.is("on the first", x.told(0, 4), 1);
        DUE.is("on the last", x.told(9, 4), 1);
    }

    /** "BELL (0 .. 199)". */
    private static void bellsAre0To199() {
        EDGES.takes("bell of come", Edges::busy, (x, v) -> x.come(1, 0, 10 * v + 1), 0, 1, 198, 199);
        EDGES.refuses("bell of come", BAD, Edges::busy, (x, v) -> x.come(1, 0, 10 * v + 1), -1, 200);
        EDGES.bounds("bell of set", BAD, Edges::busy, (x, v) -> x.set(0, 0, v), 0, 199);
        StairLines x = new StairLines();
        x.come(1, 0, 1991);
        DUE.is("it was the last", x.set(0, 0, 0), 199);
        DUE.is("it was the first", x.set(0, 0, 199), 0);
        DUE.is("it is the last", x.told(0, 7), 199);
    }

    /** "EVERY (1 .. 9)". */
    private static void everiesAre1To9() {
        EDGES.bounds("every of set", BAD, Edges::busy, (x, v) -> x.set(1, 1, v), 1, 9);
        EDGES.bounds("every of come", BAD, Edges::busy, (x, v) -> x.come(1, 0, v), 1, 9);
        EDGES.refuses("every of come", BAD, Edges::busy, (x, v) -> x.come(1, 0, 10 * v), 1, 5, 199);
        StairLines x = new StairLines();
        x.come(60, 0, 1);
        DUE.is("it was the least", x.set(1, 0, 9), 1);
        DUE.is("it was the most", x.set(1, 0, 1), 9);
        DUE.is("it is the least", x.told(0, 8), 1);
    }

    /** "what: 10 times BELL, and EVERY". */
    private static void whatIsTenTimesBellAndEvery() {
        int[][] due = {{1, 0, 1}, {9, 0, 9}, {11, 1, 1}, {19, 1, 9}, {1991, 199, 1}, {1999, 199, 9}, {1989, 198, 9}};
        for (int[] d : due) {
            StairLines x = new StairLines();
            DUE.is("come " + d[0], x.come(1, 0, d[0]), 0);
            DUE.is("bell of " + d[0], x.told(0, 7), d[1]);
            DUE.is("every of " + d[0], x.told(0, 8), d[2]);
        }
        EDGES.refuses("what", BAD, Edges::busy, (x, v) -> x.come(1, 0, v), 0, 10, 1990, 2000, 2001, 2009, -1, -9, -10,
            -19, Edges.MIN, Edges.MAX);
    }

    /** "CLASSES (5 at most". */
    private static void fiveClassesAtMost() {
        StairLines x = new StairLines();
        for (int c = 0; c < 5; c++) {
            DUE.is("there is room", x.come(1, 9, 1), c);
            DUE.is("how many", x.count(0), c + 1);
        }
        DUE.is("there is none", x.come(1, 9, 1), FULL);
        EDGES.leaves("come when full", Edges::full, y -> y.come(1, 0, 1), FULL);
        Due.ticks(x, 20);
        DUE.is("all are out", x.count(2), 5);
        DUE.is("who is out is a class still", x.come(1, 9, 1), FULL);
    }

    /** "CLASSES (.. numbered from 0)". */
    private static void classesAreNumberedFrom0() {
        EDGES.bounds("set of three classes", BAD, Edges::busy, (x, v) -> x.set(1, v, 4), 0, 2);
        EDGES.bounds("set of five classes", BAD, Edges::full, (x, v) -> x.set(1, v, 4), 0, 4);
        for (int what = 5; what <= 9; what++) {
            int of = what;
            EDGES.bounds("told of three classes", BAD, Edges::busy, (x, v) -> x.told(v, of), 0, 2);
            EDGES.bounds("told of five classes", BAD, Edges::full, (x, v) -> x.told(v, of), 0, 4);
        }
    }

    /** "no CLASSES": not even the first. */
    private static void classesOfNone() {
        EDGES.refuses("set of no class", BAD, Edges::fresh, (x, v) -> x.set(v, 0, 1), 0, 1, 2);
        EDGES.refuses("told of no class", BAD, Edges::fresh, (x, v) -> x.told(0, v), 5, 6, 7, 8, 9);
    }

    /** "BELL (what 0), EVERY (1), FLOOR (2)". */
    private static void setOfThree() {
        EDGES.bounds("what of set", BAD, Edges::busy, (x, v) -> x.set(v, 0, 1), 0, 2);
        int[] toldAs = {7, 8, 6};
        for (int what = 0; what < 3; what++) {
            StairLines x = new StairLines();
            x.come(7, 3, 52);
            int was = x.told(0, toldAs[what]);
            DUE.is("what it was", x.set(what, 0, 8), was);
            for (int told = 5; told < 10; told++) {
                int same = new int[] {7, 3, 5, 2, 7}[told - 5];
                DUE.is("told " + told + " behind set " + what, x.told(0, told), told == toldAs[what] ? 8 : same);
            }
        }
    }

    /** "Of a STEP: 0 .. 4; of a CLASS: 5 .. 9". */
    private static void toldOfTen() {
        EDGES.bounds("what of told", BAD, Edges::busy, (x, v) -> x.told(0, v), 0, 9);
    }

    /** Of the ten steps told 4 is the last, of the five classes told 5 is the first. */
    private static void toldOfStepsIsNotBoundByClasses() {
        StairLines x = Edges.full();
        DUE.is("step 9", x.told(9, 4), 0);
        DUE.is("no class 9", x.told(9, 5), BAD);
        DUE.is("class 4", x.told(4, 5), 13);
        DUE.is("no class 5", x.told(5, 5), BAD);
        DUE.is("step 5", x.told(5, 4), 0);
    }

    /** "THE TICK (0 .. 999; 0 at first)": what calls beyond the 512th answer is free, but no sooner can it be 999. */
    private static void theTickIs0To999() {
        StairLines x = new StairLines();
        x.step(0, 4, 3);
        for (int t = 0; t < 999; t++) {
            DUE.is("the tick", x.count(1), t);
            x.tick();
        }
        DUE.is("a gate lets nobody leave in 999", x.told(0, 3), 0);
        x.come(2, 9, 2);
        for (int n = 0; n < 3; n++) {
            DUE.is("the last tick", x.count(1), 999);
            DUE.is("ticks pass all the same", x.tick(), n == 0 ? 0 : 2);
        }
        DUE.is("image of the last tick", x.image(), 999);
        DUE.is("back to the last tick", x.back(), 999);
        x.come(1, 0, 1);
        DUE.is("it is odd for ever", x.run(0), 400);
    }

    /** "how many of each CLASS are still IN (all, as it comes)". */
    private static void allAreInAsAClassComes() {
        StairLines x = new StairLines();
        x.come(60, 3, 9);
        x.tick();
        x.come(60, 3, 9);
        DUE.is("some of the first", x.told(0, 9), 52);
        DUE.is("all of the second", x.told(1, 9), 60);
        DUE.is("all of both", x.count(4), 112);
    }

    private static void nobodyIsInAtLast() {
        StairLines x = new StairLines();
        x.come(3, 9, 2);
        int[] in = {3, 1, 0, 0};
        for (int n : in) {
            DUE.is("in", x.told(0, 9), n);
            DUE.is("in of all", x.count(4), n);
            x.tick();
        }
        DUE.is("its size stays", x.told(0, 5), 3);
    }

    /** "HOLDS 1 at least": the least of all is a SHARP turn's of WIDTH 1. */
    private static void holdsAtTheLeastAndTheMostWide() {
        int[] least = {4, 2, 6, 1, 12, 2};
        int[] most = {36, 18, 38, 17, 76, 18};
        for (int kind = 0; kind < 6; kind++) {
            StairLines x = new StairLines();
            x.step(0, kind, 1);
            x.step(9, kind, 9);
            DUE.is("holds of kind " + kind + " at width 1", x.told(0, 2), least[kind]);
            DUE.is("holds of kind " + kind + " at width 9", x.told(9, 2), most[kind]);
        }
    }

    /** "PASSES 0 at least": the least of all is a TURN's of WIDTH 1. */
    private static void passesAtTheLeastAndTheMostWide() {
        int[][] least = {{1, 1}, {0, 0}, {1, 1}, {1, 1}, {1, 0}, {0, 0}};
        int[][] most = {{9, 9}, {8, 8}, {9, 9}, {8, 8}, {9, 0}, {0, 8}};
        for (int kind = 0; kind < 6; kind++) {
            StairLines x = new StairLines();
            x.step(0, kind, 1);
            x.step(9, kind, 9);
            for (int t = 0; t < 2; t++) {
                DUE.is("passes of kind " + kind + " at width 1 in " + t, x.told(0, 3), least[kind][t]);
                DUE.is("passes of kind " + kind + " at width 9 in " + t, x.told(9, 3), most[kind][t]);
                x.tick();
            }
        }
    }

    private static void aTurnOfWidth1PassesNone() {
        StairLines x = Edges.stuck(2);
        Due.ticks(x, 30);
        DUE.is("both are on it", x.told(9, 4), 2);
        DUE.is("nobody is out", x.count(2), 0);
    }

    /** "SHARP: a TURN's, 1 at least". */
    private static void aSharpTurnPassesOneAtLeast() {
        int[] passes = {1, 1, 2, 3};
        for (int width = 1; width <= 4; width++) {
            StairLines x = new StairLines();
            x.step(9, 3, width);
            DUE.is("passes at width " + width, x.told(9, 3), passes[width - 1]);
            x.come(1, 9, 1);
            DUE.is("one passes at width " + width, x.run(0), 2);
        }
    }

    /** "GATE: a DOOR's in even TICKS, none in odd ones". */
    private static void aGatePassesInEvenTicks() {
        StairLines x = new StairLines();
        x.step(9, 4, 1);
        x.come(3, 9, 3);
        int[] out = {0, 0, 1, 1, 2, 2, 3, 3};
        for (int t = 0; t < out.length; t++) {
            DUE.is("passes in " + t, x.told(9, 3), t % 2 == 0 ? 1 : 0);
            DUE.is("out behind " + t, x.tick(), out[t]);
        }
    }

    /** "LACED: a TURN's, but none in TICKS that are 0 modulo (WIDTH and 2)": ten widths' worth of steps at once. */
    private static void aLacedTurnPassesNoneInSomeTicks() {
        StairLines x = new StairLines();
        for (int width = 1; width <= 9; width++) {
            x.step(width, 5, width);
        }
        for (int t = 0; t <= 34; t++) {
            for (int width = 1; width <= 9; width++) {
                int due = t % (width + 2) == 0 ? 0 : width - 1;
                DUE.is("width " + width + " in " + t, x.told(width, 3), due);
            }
            x.tick();
        }
        StairLines y = new StairLines();
        y.step(9, 5, 2);
        y.come(6, 9, 6);
        // holds 4; one a tick, but none in 0, 4, 8
        int[] out = {0, 1, 2, 3, 3, 4, 5, 6, 6};
        for (int t = 0; t < out.length; t++) {
            DUE.is("out behind " + t, y.tick(), out[t]);
        }
    }

    /** "3 PASSES in THE TICK": slows is no part of it. */
    private static void passesAreToldBeforeTheyAreSlowed() {
        StairLines x = Edges.crowded(9, 9);
        x.step(9, 0, 9);
        DUE.is("passes", x.told(9, 3), 9);
        x.tick();
        DUE.is("one was slowed", x.told(9, 4), 1);
    }

    /** "(who is on it stays)". */
    private static void whoIsOnAStepStays() {
        for (int kind = 0; kind < 6; kind++) {
            StairLines x = Edges.crowded(5, 16);
            DUE.is("it was a gate", x.step(5, kind, 9), 4);
            DUE.is("all stay on kind " + kind, x.told(5, 4), 16);
            DUE.is("all are on steps", x.count(3), 16);
        }
    }

    /** "STATE: it would not hold all who are on it": as many as it holds are taken, one more is not. */
    private static void aStepHoldsAllWhoAreOnIt() {
        for (int kind = 0; kind < 6; kind++) {
            for (int width = 1; width <= 9; width++) {
                int k = kind;
                int w = width;
                StairLines x = new StairLines();
                x.step(5, kind, width);
                int holds = x.told(5, 2);
                if (holds < 45) {
                    String what = "kind " + kind + " width " + width;
                    DUE.is(what + " holds " + holds, Edges.crowded(5, holds).step(5, k, w), 4);
                    EDGES.leaves(what + " and one more", () -> Edges.crowded(5, holds + 1), y -> y.step(5, k, w), STATE);
                }
            }
        }
        DUE.is("on another step it does not matter", Edges.crowded(5, 45).step(6, 3, 1), 0);
    }

    private static void badIsAheadOfState() {
        Edges.Build crowded = () -> Edges.crowded(5, 30);
        EDGES.leaves("state", crowded, x -> x.step(5, 0, 1), STATE);
        EDGES.refuses("kind ahead of state", BAD, crowded, (x, v) -> x.step(5, v, 1), -1, 6);
        EDGES.refuses("width ahead of state", BAD, crowded, (x, v) -> x.step(5, 0, v), 0, 10);
        EDGES.refuses("step ahead of state", BAD, crowded, (x, v) -> x.step(v, 0, 1), -1, 10);
    }

    private static void badIsAheadOfFull() {
        EDGES.refuses("size ahead of full", BAD, Edges::full, (x, v) -> x.come(v, 0, 1), 0, 61);
        EDGES.refuses("floor ahead of full", BAD, Edges::full, (x, v) -> x.come(1, v, 1), -1, 10);
        EDGES.refuses("what ahead of full", BAD, Edges::full, (x, v) -> x.come(1, 0, v), 0, 10, 2001);
    }
}
