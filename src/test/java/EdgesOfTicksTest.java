/** Promises 9 to 12 and what a TICK and RUN are, at their edges: each test is of one sentence that names a bound. */
public final class EdgesOfTicksTest {
    private static final Due DUE = new Due();
    private static final Edges EDGES = new Edges(DUE);
    private static final int BAD = StairLines.BAD, NONE = StairLines.NONE;

    public static void main(String[] args) {
        DUE.promise(9);
        noMoreLeaveThanAreThere();
        noMoreLeaveThanPassesLets();
        passesLessSlowsIs0AtLeast();
        noMoreLeaveThanTheNextHasRoomFor();
        theNextHasRoomByThen();
        behindStep9AllHaveRoom();
        fullStepsFromTopToBottom();
        aBellRingsInItsTick();
        theLastBellRings();
        theFirstBellRings();
        noMoreStepOnThanAreIn();
        noMoreStepOnThanEvery();
        noMoreStepOnThanComes();
        noMoreStepOnThanThereIsRoomFor();
        theFloorHasRoomByThen();
        classesStepOnByNumbers();
        aTickOfNobody();
        outIsOfAll();
        DUE.promise(10);
        whoComesDoesNotStand();
        whoStaysStands();
        mindsAreToldAsAllIsThen();
        mindsAreToldInTheOldTick();
        runOfFour();
        runOfNobodyIsEmpty();
        runOfWhoIsOutIsEmpty();
        runGoesOnWhileSomebodyIsIn();
        runGoesOnWhileSomebodyIsOnAStep();
        runEndsAt400();
        runStopsAt400();
        runFromNowOn();
        mostIsAtTheEndOfATick();
        mostCanBe76();
        DUE.promise(11);
        onBehind0To400();
        onOfSteps();
        onBehind400();
        onAfterAllAreOut();
        onIsNow();
        DUE.promise(12);
        holdsUpOfNobody();
        holdsUpOfTheFirstAndTheLast();
        holdsUpOfLikeOnes();
        holdsUpStopsAt400();
        DUE.promise(10, 11, 12);
        looksAheadChangeNothing();
        DUE.end();
    }

    /** The rule is one whose slows, comes and minds are these. */
    private static void rule(StairLines x, String slows, String comes, String minds) {
        String text = "slows " + slows + ";comes " + comes + ";minds " + minds + ";";
        int number = Due.text(x, text);
        DUE.holds("[" + text + "]", number > 0);
        x.force(number);
    }

    /** "as many leave as are there". */
    private static void noMoreLeaveThanAreThere() {
        int[] stay = {0, 0, 1, 2};
        for (int n = 1; n <= 4; n++) {
            StairLines x = Edges.crowded(9, n);
            x.step(9, 0, 2);
            DUE.is("of " + n, x.on(9, 1), stay[n - 1]);
            DUE.is("out of " + n, x.tick(), n - stay[n - 1]);
        }
    }

    /** "as PASSES .. lets". */
    private static void noMoreLeaveThanPassesLets() {
        for (int width = 3; width <= 9; width++) {
            StairLines x = Edges.crowded(9, 9);
            rule(x, "0", "0", "0");
            x.step(9, 0, width);
            DUE.is("at width " + width, x.on(9, 1), 9 - width);
            x.step(9, 1, 9);
            DUE.is("of a turn of width 9", x.on(9, 1), 1);
            x.step(9, 4, width);
            DUE.is("of a gate in an odd tick", x.on(9, 1), 9);
        }
    }

    /** "less slows .. (0 at least)". */
    private static void passesLessSlowsIs0AtLeast() {
        for (int slows = 0; slows <= 9; slows++) {
            StairLines x = Edges.crowded(9, 9);
            rule(x, "" + slows, "0", "0");
            x.step(9, 0, 4);
            DUE.is("4 less " + slows, x.on(9, 1), 9 - Math.max(0, 4 - slows));
            DUE.is("out by 4 less " + slows, x.tick(), Math.max(0, 4 - slows));
        }
        StairLines y = Edges.crowded(9, 9);
        rule(y, "9", "0", "0");
        y.step(9, 1, 9);
        DUE.is("8 less 9: nobody comes back", y.tick(), 0);
        DUE.is("all are there", y.told(9, 4), 9);
    }

    /** "as the next STEP has room for by then (HOLDS less those on it": of a turn that holds two and lets nobody leave. */
    private static void noMoreLeaveThanTheNextHasRoomFor() {
        for (int there = 0; there <= 2; there++) {
            StairLines x = Edges.crowded(4, 3);
            x.step(4, 0, 3);
            x.step(5, 1, 1);
            if (there > 0) {
                x.come(there, 5, there + 10);
                x.step(4, 4, 3);
                x.tick();
                x.step(4, 0, 3);
            }
            DUE.is("as many as have room beside " + there, x.on(5, 1), 2);
            DUE.is("the others stay beside " + there, x.on(4, 1), 1 + there);
        }
        StairLines y = Edges.crowded(4, 4);
        y.step(4, 0, 9);
        y.step(5, 0, 1);
        DUE.is("room for all of them", y.on(4, 1), 0);
        StairLines z = Edges.crowded(4, 5);
        z.step(4, 0, 9);
        z.step(5, 0, 1);
        DUE.is("room for all but one", z.on(4, 1), 1);
    }

    /** "by then": who leaves the next step makes room first, who comes to this one later makes none. */
    private static void theNextHasRoomByThen() {
        StairLines x = new StairLines();
        for (int s = 3; s <= 9; s++) {
            x.step(s, 3, 1);
        }
        for (int s = 3; s <= 7; s++) {
            x.come(1, s, 1);
        }
        x.tick();
        for (int s = 3; s <= 7; s++) {
            DUE.is("on " + s, x.told(s, 4), 1);
        }
        x.tick();
        for (int s = 4; s <= 8; s++) {
            DUE.is("each went on to " + s, x.told(s, 4), 1);
        }
        DUE.is("the first is empty", x.told(3, 4), 0);
    }

    /** "behind STEP 9 all have room". */
    private static void behindStep9AllHaveRoom() {
        StairLines x = Edges.crowded(9, 36);
        rule(x, "0", "0", "0");
        x.step(9, 0, 9);
        for (int out = 9; out <= 36; out += 9) {
            DUE.is("nine at once", x.tick(), out);
        }
    }

    /** "STEP by STEP from 9 up to 0": all are full, and one a tick moves down through all of them. */
    private static void fullStepsFromTopToBottom() {
        StairLines x = new StairLines();
        for (int s = 0; s <= 9; s++) {
            x.step(s, 3, 1);
        }
        x.come(60, 0, 1);
        Due.ticks(x, 10);
        for (int s = 0; s <= 9; s++) {
            DUE.is("full " + s, x.told(s, 4), 1);
        }
        DUE.is("nobody is out", x.count(2), 0);
        DUE.is("one is out", x.tick(), 1);
        for (int s = 0; s <= 9; s++) {
            DUE.is("full again " + s, x.told(s, 4), 1);
        }
        DUE.is("nobody stood", x.run(1), 0);
    }

    /** "whose BELL is THE TICK or less". */
    private static void aBellRingsInItsTick() {
        for (int bell : new int[] {1, 2, 7}) {
            StairLines x = new StairLines();
            x.come(1, 9, 10 * bell + 1);
            DUE.is("ahead of bell " + bell, x.on(9, bell), 0);
            DUE.is("at bell " + bell, x.on(9, bell + 1), 1);
            Due.ticks(x, bell);
            DUE.is("none yet at bell " + bell, x.told(0, 9), 1);
            x.tick();
            DUE.is("at bell " + bell, x.told(0, 9), 0);
            x.come(1, 9, 10 * bell + 1);
            x.tick();
            DUE.is("bell " + bell + " has rung", x.told(1, 9), 0);
            x.come(1, 9, 1);
            x.tick();
            DUE.is("bell 0 has rung", x.told(2, 9), 0);
        }
    }

    private static void theLastBellRings() {
        StairLines x = new StairLines();
        x.come(1, 9, 1991);
        Due.ticks(x, 199);
        DUE.is("in in tick 199", x.told(0, 9), 1);
        x.tick();
        DUE.is("on in tick 199", x.told(0, 9), 0);
        DUE.is("on step 9", x.told(9, 4), 1);
    }

    private static void theFirstBellRings() {
        StairLines x = new StairLines();
        x.come(1, 9, 1);
        DUE.is("nobody is out", x.tick(), 0);
        DUE.is("on in tick 0", x.told(9, 4), 1);
    }

    /** "as many step on its FLOOR as are IN". */
    private static void noMoreStepOnThanAreIn() {
        for (int size = 1; size <= 9; size++) {
            StairLines x = new StairLines();
            x.step(9, 0, 9);
            x.come(size, 9, 9);
            x.tick();
            DUE.is("of " + size, x.told(9, 4), size);
            DUE.is("in of " + size, x.told(0, 9), 0);
            x.tick();
            DUE.is("in still of " + size, x.told(0, 9), 0);
        }
    }

    /** "as EVERY .. let". */
    private static void noMoreStepOnThanEvery() {
        for (int every = 1; every <= 9; every++) {
            StairLines x = new StairLines();
            x.step(9, 0, 9);
            x.come(10, 9, every);
            x.tick();
            DUE.is("every " + every, x.told(9, 4), every);
        }
    }

    /** "as .. comes let". */
    private static void noMoreStepOnThanComes() {
        for (int comes = 0; comes <= 9; comes++) {
            StairLines x = new StairLines();
            rule(x, "0", "" + comes, "0");
            x.step(9, 0, 9);
            x.come(10, 9, 9);
            x.come(10, 9, 4);
            x.tick();
            DUE.is("of the first by comes " + comes, x.told(0, 9), 10 - comes);
            DUE.is("of the second by comes " + comes, x.told(1, 9), 10 - Math.min(4, comes));
        }
    }

    /** "as it has room for by then". */
    private static void noMoreStepOnThanThereIsRoomFor() {
        int[] holds = {4, 2, 6, 1, 12, 2};
        for (int kind = 0; kind < 6; kind++) {
            StairLines x = new StairLines();
            x.step(3, kind, 1);
            x.come(60, 3, 9);
            x.come(60, 3, 2);
            x.come(60, 3, 9);
            x.tick();
            DUE.is("as many as kind " + kind + " holds", x.told(3, 4), holds[kind]);
            int first = Math.min(9, holds[kind]);
            DUE.is("of the first", x.told(0, 9), 60 - first);
            DUE.is("of the second", x.told(1, 9), 60 - Math.min(2, holds[kind] - first));
        }
        StairLines y = Edges.stuck(2);
        y.come(1, 9, 1);
        y.tick();
        DUE.is("none where it is full", y.told(1, 9), 1);
    }

    /** Who left the floor in this TICK makes room, who came to it from above takes room. */
    private static void theFloorHasRoomByThen() {
        StairLines x = new StairLines();
        x.step(6, 3, 1);
        x.come(2, 6, 1);
        x.tick();
        x.tick();
        DUE.is("the second came as the first left", x.told(0, 9), 0);
        DUE.is("the first is on step 7", x.told(7, 4), 1);
        StairLines y = new StairLines();
        y.step(6, 3, 1);
        y.come(1, 5, 1);
        y.come(1, 6, 11);
        y.tick();
        y.tick();
        DUE.is("who comes from above is first", y.told(1, 9), 1);
        DUE.is("it is full of one", y.told(6, 4), 1);
    }

    /** "CLASS by CLASS by numbers". */
    private static void classesStepOnByNumbers() {
        StairLines x = new StairLines();
        for (int c = 0; c < 5; c++) {
            x.come(3, 2, 3);
        }
        x.tick();
        int[] in = {0, 0, 1, 3, 3};
        for (int c = 0; c < 5; c++) {
            DUE.is("in of " + c, x.told(c, 9), in[c]);
        }
    }

    /** "as were on it when the TICK began": who comes in the TICK does not stand. */
    private static void whoComesDoesNotStand() {
        StairLines x = new StairLines();
        x.step(9, 0, 9);
        x.come(9, 9, 9);
        DUE.is("nine come, eight leave in the next tick, one stands", x.run(1), 1);
        StairLines y = new StairLines();
        y.come(2, 0, 2);
        DUE.is("two never stand", y.run(1), 0);
        DUE.is("though they take time", y.run(0), 11);
    }

    /** "and didn't leave it". */
    private static void whoStaysStands() {
        StairLines x = Edges.crowded(9, 5);
        x.step(9, 0, 2);
        // 5, then 3, then 1 are there as ticks begin
        DUE.is("stood", x.run(1), 3 + 1);
        DUE.is("ends", x.run(0), 3);
        StairLines y = Edges.stuck(1);
        y.come(1, 8, 11);
        // the other comes in the first tick, goes to step 9 in the second and stands in all others
        DUE.is("stood", y.run(1), 400 + 398);
    }

    /** "(told by how all is then)". */
    private static void mindsAreToldAsAllIsThen() {
        StairLines x = Edges.crowded(9, 3);
        rule(x, "0", "9", "many+10*left");
        x.step(9, 0, 2);
        x.come(2, 9, 11);
        // one stands; by then one more has come, one is in
        // then one of two stays: none, as two leave
        DUE.is("minds", x.run(2), 2 + 10);
        DUE.is("stood", x.run(1), 1);
    }

    /** "At last THE TICK is 1 more": minds are told ahead of that. */
    private static void mindsAreToldInTheOldTick() {
        StairLines x = Edges.crowded(9, 3);
        rule(x, "0", "0", "tick");
        x.step(9, 0, 1);
        DUE.is("two stand in tick 1, one in tick 2", x.run(2), 2 * 1 + 1 * 2);
    }

    private static void aTickOfNobody() {
        StairLines x = new StairLines();
        for (int t = 0; t < 5; t++) {
            DUE.is("the tick", x.count(1), t);
            DUE.is("nobody is out", x.tick(), 0);
            DUE.is("nobody is on a step", x.count(3), 0);
        }
    }

    /** "how many are OUT by then, of all". */
    private static void outIsOfAll() {
        StairLines x = new StairLines();
        rule(x, "0", "9", "0");
        x.step(9, 0, 9);
        for (int c = 0; c < 5; c++) {
            x.come(60, 9, 9);
        }
        int out = 0;
        for (int t = 0; t < 36; t++) {
            DUE.is("out behind " + t, x.tick(), out);
            out = Math.min(300, out + 9);
        }
        DUE.is("all are out", x.count(2), 300);
        DUE.is("nobody is left", x.run(0), 0);
    }

    /** "ENDS (what 0), STOOD (1), MINDED (2), MOST (3)". */
    private static void runOfFour() {
        EDGES.bounds("run", BAD, Edges::busy, StairLines::run, 0, 3);
        EDGES.bounds("run of nobody", BAD, Edges::fresh, StairLines::run, 0, 3);
    }

    private static void runOfNobodyIsEmpty() {
        StairLines x = new StairLines();
        for (int what = 0; what < 4; what++) {
            DUE.is("run " + what, x.run(what), 0);
        }
    }

    private static void runOfWhoIsOutIsEmpty() {
        StairLines x = Edges.crowded(9, 5);
        x.step(9, 0, 5);
        x.tick();
        for (int what = 0; what < 4; what++) {
            DUE.is("run " + what, x.run(what), 0);
        }
        DUE.is("out", x.count(2), 5);
    }

    /** "nobody IN". */
    private static void runGoesOnWhileSomebodyIsIn() {
        StairLines x = new StairLines();
        x.come(1, 9, 1991);
        DUE.is("199 ticks without anybody", x.run(0), 201);
        rule(x, "0", "0", "0");
        DUE.is("who never comes", x.run(0), 400);
        DUE.is("does not stand", x.run(1), 0);
        DUE.is("is on no step", x.run(3), 0);
    }

    /** "nobody is on a STEP". */
    private static void runGoesOnWhileSomebodyIsOnAStep() {
        for (int s = 0; s <= 9; s++) {
            StairLines x = Edges.crowded(s, 1);
            x.step(s, 0, 2);
            DUE.is("one on step " + s, x.run(0), 10 - s);
        }
    }

    /** "400 at most": a run that ends by itself in the last of them, and the ones beside it. */
    private static void runEndsAt400() {
        DUE.is("ends in 399", Edges.queue(98).run(0), 399);
        DUE.is("ends in 400", Edges.queue(99).run(0), 400);
        DUE.is("does not end", Edges.queue(100).run(0), 400);
        DUE.is("nobody stood", Edges.queue(100).run(1), 0);
        DUE.is("most", Edges.queue(100).run(3), 1);
        // one who is stuck from the tick on in which he comes
        for (int tick = 396; tick <= 402; tick++) {
            StairLines x = new StairLines();
            rule(x, "9", "tick=" + tick, "7");
            x.come(1, 3, 1);
            int stood = Math.max(0, 399 - tick);
            DUE.is("ends", x.run(0), 400);
            DUE.is("stood from " + tick, x.run(1), stood);
            DUE.is("minded from " + tick, x.run(2), 7 * stood);
            DUE.is("most from " + tick, x.run(3), tick <= 399 ? 1 : 0);
            DUE.is("on from " + tick, x.on(3, 400), tick <= 399 ? 1 : 0);
            DUE.is("holds up from " + tick, x.holdsUp(), stood > 0 ? 3 : NONE);
        }
    }

    private static void runStopsAt400() {
        for (int n = 1; n <= 2; n++) {
            StairLines x = Edges.stuck(n);
            rule(x, "0", "9", "99");
            DUE.is("ends", x.run(0), 400);
            DUE.is("stood", x.run(1), 400 * n);
            DUE.is("minded", x.run(2), 400 * n * 99);
            DUE.is("most", x.run(3), n);
        }
    }

    /** "TICKS from now on". */
    private static void runFromNowOn() {
        StairLines x = Edges.queue(3);
        for (int t = 0; t < 30; t++) {
            DUE.is("ends behind " + t, x.run(0), 304 - t);
            x.tick();
        }
    }

    /** "MOST on one STEP at the end of a TICK": what was ahead of the first does not count. */
    private static void mostIsAtTheEndOfATick() {
        StairLines x = Edges.crowded(9, 5);
        x.step(9, 0, 2);
        DUE.is("five are there", x.told(9, 4), 5);
        DUE.is("three at the end of the tick", x.run(3), 3);
        StairLines y = Edges.crowded(9, 5);
        y.step(9, 0, 5);
        DUE.is("none at the end of the tick", y.run(3), 0);
        StairLines z = new StairLines();
        z.come(3, 0, 3);
        z.come(4, 9, 4);
        DUE.is("on one step, not on two", z.run(3), 4);
    }

    /** As many as a GATE of WIDTH 9 holds, which is most of all. */
    private static void mostCanBe76() {
        StairLines x = new StairLines();
        x.step(0, 4, 9);
        for (int c = 0; c < 5; c++) {
            x.come(60, 0, 9);
        }
        DUE.is("most", x.run(3), 76);
        DUE.is("in two ticks", x.on(0, 2), 76);
        DUE.is("full in the second", x.look(0, 2), 1);
    }

    /** "How many are on a STEP behind n TICKS (0 .. 400)". */
    private static void onBehind0To400() {
        EDGES.bounds("ticks of on", BAD, Edges::busy, (x, v) -> x.on(0, v), 0, 400);
    }

    private static void onOfSteps() {
        EDGES.bounds("step of on", BAD, Edges::busy, (x, v) -> x.on(v, 3), 0, 9);
    }

    private static void onBehind400() {
        StairLines x = Edges.queue(99);
        DUE.is("the last is there", x.on(9, 399), 1);
        DUE.is("the last is out", x.on(9, 400), 0);
        StairLines y = Edges.queue(100);
        DUE.is("the last is there", y.on(9, 400), 1);
        StairLines z = Edges.stuck(2);
        DUE.is("both are there for ever", z.on(9, 400), 2);
    }

    private static void onAfterAllAreOut() {
        StairLines x = new StairLines();
        x.come(1, 9, 1);
        DUE.is("on", x.on(9, 1), 1);
        DUE.is("out", x.on(9, 2), 0);
        DUE.is("out for ever", x.on(9, 400), 0);
    }

    /** Behind 0 TICKS. */
    private static void onIsNow() {
        StairLines x = Edges.crowded(4, 17);
        DUE.is("now", x.on(4, 0), 17);
        DUE.is("now, on another", x.on(5, 0), 0);
        x.come(9, 5, 9);
        DUE.is("who comes is not on yet", x.on(5, 0), 0);
        DUE.is("but behind a tick", x.on(5, 1), 8);
    }

    /** "NONE: nobody did". */
    private static void holdsUpOfNobody() {
        DUE.is("nobody is there", new StairLines().holdsUp(), NONE);
        DUE.is("nobody stands", Edges.queue(0).holdsUp(), NONE);
        StairLines x = new StairLines();
        x.come(2, 0, 2);
        DUE.is("nobody stands", x.holdsUp(), NONE);
        x.come(1, 0, 1);
        DUE.is("one stands for a tick", x.holdsUp(), 0);
    }

    /** "the STEP on which most STOOD". */
    private static void holdsUpOfTheFirstAndTheLast() {
        for (int s = 0; s <= 9; s++) {
            StairLines x = new StairLines();
            x.come(3, s, 3);
            DUE.is("on step " + s, x.holdsUp(), s);
            x.come(3, 9 - s, 503);
            x.come(1, s, 1001);
            DUE.is("as many on another", x.holdsUp(), Math.max(s, 9 - s));
            x.come(4, s, 1104);
            DUE.is("more on step " + s, x.holdsUp(), s);
        }
    }

    /** "of like ones the lowest (greatest number)". */
    private static void holdsUpOfLikeOnes() {
        for (int s = 0; s < 9; s++) {
            StairLines x = new StairLines();
            x.come(3, s, 3);
            x.come(3, 9, 503);
            DUE.is("of like ones the lowest", x.holdsUp(), 9);
            x.set(2, 1, s + 1);
            DUE.is("of like ones the lower", x.holdsUp(), s + 1);
        }
    }

    /** RUN's 400 bound it, too: nobody stands but in ticks beyond them. */
    private static void holdsUpStopsAt400() {
        StairLines x = new StairLines();
        x.come(3, 0, 1993);
        DUE.is("from 199 ticks ahead", x.holdsUp(), 0);
        StairLines y = Edges.stuck(2);
        y.come(2, 8, 1992);
        // both stand on step 9 in the ticks 1 to 400, the others on step 8 in 200 to 400
        DUE.is("those who stand in all", y.holdsUp(), 9);
        DUE.is("stood", y.run(1), 2 * 400 + 2 * 201);
    }

    private static void looksAheadChangeNothing() {
        for (int what = 0; what < 4; what++) {
            int of = what;
            int answer = Edges.busy().run(what);
            EDGES.leaves("run " + what, Edges::busy, x -> x.run(of), answer);
        }
        int on = Edges.busy().on(9, 17);
        EDGES.leaves("on", Edges::busy, x -> x.on(9, 17), on);
        int holdsUp = Edges.busy().holdsUp();
        EDGES.leaves("holdsUp", Edges::busy, StairLines::holdsUp, holdsUp);
    }
}
