/** Promises 13 to 24 at their edges: each test is of one sentence of the document that names a bound. */
public final class EdgesOfBetterTest {
    private static final Due DUE = new Due();
    private static final Edges EDGES = new Edges(DUE);
    private static final int BAD = StairLines.BAD, STATE = StairLines.STATE, NONE = StairLines.NONE;

    public static void main(String[] args) {
        DUE.promise(13);
        widenOfNobody();
        widenOnlyIfLess();
        widenByOne();
        widenTo9AtMost();
        widenOfTheFirstAndTheLast();
        widenOfLikeOnes();
        widenOfWhoNeverEnds();
        DUE.promise(14);
        laterOfNobody();
        laterOnlyIfLess();
        laterBy20();
        laterTo199AtMost();
        laterOfLikeOnes();
        laterOfTheLastClass();
        laterOfTheLeast();
        DUE.promise(15);
        apartOfTwo();
        apartOfNobody();
        apartFrom0To30();
        apartOfFiveClasses();
        apartOfEachFloor();
        apartOfNone();
        apartBeyond400();
        soonestFrom0To30();
        soonestOfLikeOnes();
        soonestOfWhoNeverEnds();
        DUE.promise(16);
        orderOfTheClassesThereAre();
        orderOfNobody();
        orderOfOne();
        orderOfFive();
        orderByStood();
        orderOfLikeOnes();
        orderOfLikeOnesWhoStand();
        orderOfBellsThatHaveRung();
        orderWhenManyAreOut();
        orderOfWhoNeverEnds();
        DUE.promise(17);
        shutOfSteps();
        shutFor0To100();
        shutTillTheLastTick();
        shutOfWhoNeverEnds();
        DUE.promise(18);
        drillOfNobody();
        drillOfLateBells();
        drillOfWhoNeverEnds();
        DUE.promise(19);
        judgeRefuses();
        judgeOfAnEmptySheet();
        judgeOf40();
        judgeOfTheFirst();
        judgeOfBits();
        DUE.promise(20);
        lookOfSteps();
        lookAt0To400();
        lookIsOfFullOnes();
        lookAtAllOf400();
        DUE.promise(21);
        drawnOfAnySeed();
        drawnOfNobody();
        drawnOfWhoNeverEnds();
        DUE.promise(22, 23);
        imageOfANewObject();
        imageOfAFullObject();
        imageKeepsAllItSays();
        imageKeepsNothingElse();
        imageIsKeptByBack();
        imageIsTheLast();
        DUE.promise(23);
        backWithoutAnImage();
        DUE.promise(24);
        countOfEight();
        countFromEmptyToFull();
        DUE.promise(13, 14, 15, 16, 17, 18);
        looksAheadChangeNothing();
        DUE.end();
    }

    /** The rule is one whose slows, comes and minds are these. */
    private static void rule(StairLines x, String slows, String comes, String minds) {
        String text = "slows " + slows + ";comes " + comes + ";minds " + minds + ";";
        int number = Due.text(x, text);
        DUE.holds("[" + text + "]", number > 0);
        x.force(number);
    }

    // ---- widen

    private static void widenOfNobody() {
        DUE.is("nobody", new StairLines().widen(), NONE);
        StairLines x = new StairLines();
        x.come(3, 9, 3);
        Due.ticks(x, 3);
        DUE.is("all are out", x.widen(), NONE);
    }

    /** "if less than it is". */
    private static void widenOnlyIfLess() {
        StairLines x = new StairLines();
        x.come(2, 9, 2);
        DUE.is("two ticks as it is", x.run(0), 2);
        DUE.is("no less", x.widen(), NONE);
        StairLines y = new StairLines();
        y.step(9, 5, 2);
        y.come(1, 9, 21);
        // in ticks that are 0 modulo 4 none leave, in those that are 0 modulo 5 if it were wider
        DUE.is("four ticks as it is", y.run(0), 4);
        y.set(0, 0, 4);
        DUE.is("six ticks as it is", y.run(0), 6);
        DUE.is("wider would be more", y.widen(), NONE);
    }

    /** "were it 1 WIDER": two wider would be better. */
    private static void widenByOne() {
        StairLines x = new StairLines();
        x.come(4, 9, 4);
        DUE.is("3 ticks", x.run(0), 3);
        DUE.is("3 ticks by one wider", x.widen(), NONE);
        x.step(9, 0, 3);
        DUE.is("3 ticks, truly", x.run(0), 3);
        DUE.is("2 ticks by one wider", x.widen(), 9);
        x.step(9, 0, 4);
        DUE.is("2 ticks, truly", x.run(0), 2);
    }

    /** "(9 at most)". */
    private static void widenTo9AtMost() {
        StairLines x = new StairLines();
        rule(x, "0", "9", "0");
        x.step(9, 0, 8);
        x.come(9, 9, 9);
        DUE.is("8 may be wider", x.widen(), 9);
        x.step(9, 0, 9);
        x.come(1, 9, 1);
        DUE.is("9 of 10 leave", x.run(0), 3);
        DUE.is("9 may not be wider", x.widen(), NONE);
        x.step(9, 0, 8);
        x.set(0, 0, 100);
        x.set(0, 1, 100);
        DUE.is("8 may, but it is no sooner", x.widen(), NONE);
    }

    private static void widenOfTheFirstAndTheLast() {
        for (int s = 0; s <= 9; s++) {
            StairLines x = new StairLines();
            x.step(s, 1, 1);
            x.come(1, s, 1);
            DUE.is("never", x.run(0), 400);
            DUE.is("only by step " + s, x.widen(), s);
        }
    }

    /** "of like ones the highest": six who pass 7 and 8, slowed on both. */
    private static void widenOfLikeOnes() {
        for (int s = 0; s <= 7; s++) {
            StairLines x = new StairLines();
            x.step(s + 1, 4, 3);
            x.come(6, s, 3);
            int ends = x.run(0);
            x.step(s, 0, 3);
            int upper = x.run(0);
            x.step(s, 0, 2);
            x.step(s + 1, 4, 4);
            int lower = x.run(0);
            x.step(s + 1, 4, 3);
            DUE.holds("like ones " + s, upper == lower && upper < ends);
            DUE.is("of like ones the highest", x.widen(), s);
        }
    }

    /** RUN's 400 at most: it ends at all, or never. */
    private static void widenOfWhoNeverEnds() {
        StairLines x = Edges.stuck(2);
        DUE.is("never", x.run(0), 400);
        DUE.is("it would end", x.widen(), 9);
        x.step(9, 0, 2);
        x.step(8, 1, 1);
        x.step(7, 1, 1);
        x.come(1, 6, 1);
        DUE.is("never, whatever is wider", x.widen(), NONE);
        DUE.is("to 400 or beyond", Edges.queue(100).widen(), NONE);
        DUE.is("400 to 399", threeComeInTick(397).widen(), 9);
        DUE.is("401 to 400", threeComeInTick(398).widen(), NONE);
        StairLines y = new StairLines();
        y.come(3, 9, 1993);
        DUE.is("202 to 201", y.widen(), 9);
    }

    /** They are out three ticks behind it, or two, were step 9 wider. */
    private static StairLines threeComeInTick(int tick) {
        StairLines x = new StairLines();
        rule(x, "0", "9*(tick=" + tick + ")", "0");
        x.come(3, 9, 3);
        DUE.is("not in fewer", x.run(0), 400);
        return x;
    }

    // ---- later

    private static void laterOfNobody() {
        DUE.is("no class", new StairLines().later(), NONE);
        StairLines x = new StairLines();
        x.come(2, 9, 2);
        DUE.is("nobody stands", x.later(), NONE);
    }

    /** "if less than it is". */
    private static void laterOnlyIfLess() {
        StairLines x = new StairLines();
        x.come(3, 9, 3);
        DUE.is("one stands", x.run(1), 1);
        DUE.is("as many would stand later", x.later(), NONE);
        x.come(1, 9, 41);
        DUE.is("another one, alone", x.later(), NONE);
        x.come(3, 9, 203);
        DUE.is("more would stand later", x.later(), NONE);
    }

    /** Two classes of two ring at once, a third rings so many ticks behind them; all are two ticks on step 9. */
    private static StairLines threeOfTwo(int bell, int third) {
        StairLines x = new StairLines();
        x.come(2, 9, 10 * bell + 2);
        x.come(2, 9, 10 * bell + 2);
        x.come(2, 9, 10 * third + 2);
        DUE.is("two of the first stand", x.run(1), 2);
        return x;
    }

    /** "were its BELL 20 later". */
    private static void laterBy20() {
        for (int bell : new int[] {0, 1, 70, 178}) {
            DUE.is("beside the third", threeOfTwo(bell, bell + 19).later(), 0);
            DUE.is("with the third", threeOfTwo(bell, bell + 20).later(), NONE);
            DUE.is("beside the third", threeOfTwo(bell, bell + 21).later(), 0);
        }
    }

    /** "(199 at most)". */
    private static void laterTo199AtMost() {
        DUE.is("179 and 20 beside 198", threeOfTwo(179, 198).later(), 0);
        DUE.is("179 and 20 with 199", threeOfTwo(179, 199).later(), NONE);
        for (int bell : new int[] {180, 181, 190}) {
            DUE.is(bell + " and 20 beside 198", threeOfTwo(bell, 198).later(), 0);
            DUE.is(bell + " and 20 with 199", threeOfTwo(bell, 199).later(), NONE);
        }
        StairLines x = new StairLines();
        x.come(2, 9, 1992);
        x.come(2, 9, 1992);
        DUE.is("199 is no later", x.later(), NONE);
    }

    /** "of like ones the first". */
    private static void laterOfLikeOnes() {
        StairLines x = new StairLines();
        x.come(1, 0, 1);
        x.come(2, 9, 502);
        x.come(2, 9, 502);
        DUE.is("the first of two", x.later(), 1);
        x.come(1, 9, 501);
        // of five at once four stand in all, of four two, of three one
        DUE.is("the first of those by whom one stands", x.later(), 1);
    }

    private static void laterOfTheLastClass() {
        StairLines x = new StairLines();
        x.come(1, 9, 301);
        x.come(2, 9, 102);
        x.come(1, 0, 1501);
        x.come(1, 1, 1601);
        x.come(1, 9, 101);
        DUE.is("one stands", x.run(1), 1);
        // 20 later the two would be with the first, and one of three would stand
        DUE.is("the fifth", x.later(), 4);
        EDGES.leaves("later", Edges::busy, StairLines::later, Edges.busy().later());
    }

    /** "would let STOOD be least": the first is less than it is, the others are less than that. */
    private static void laterOfTheLeast() {
        StairLines x = new StairLines();
        x.come(1, 9, 501);
        x.come(2, 9, 502);
        x.come(2, 9, 502);
        DUE.is("of five four stand", x.run(1), 4);
        DUE.is("the first of the twos", x.later(), 1);
        x.set(0, 0, 70);
        DUE.is("of four two stand", x.run(1), 2);
        x.set(0, 0, 50);
        x.set(0, 1, 70);
        DUE.is("of three one stands", x.run(1), 1);
    }

    // ---- apart

    private static void apartOfTwo() {
        EDGES.bounds("apart", BAD, Edges::busy, StairLines::apart, 0, 1);
        EDGES.bounds("apart of nobody", BAD, Edges::fresh, StairLines::apart, 0, 1);
    }

    private static void apartOfNobody() {
        DUE.is("nobody stands", new StairLines().apart(0), 0);
        DUE.is("soonest", new StairLines().apart(1), 0);
        StairLines y = oneByOne(3, 1);
        Due.ticks(y, 4);
        DUE.is("all are out", y.apart(0), 0);
        StairLines x = new StairLines();
        x.come(2, 3, 1992);
        DUE.is("one class, its bell is 0 by any", x.apart(0), 0);
        x.set(1, 0, 1);
        x.step(3, 1, 1);
        DUE.is("somebody stands by any", x.apart(0), NONE);
    }

    /** So many come to step 9 one by one; it passes one a tick, so the next class must wait for the last of them. */
    private static StairLines oneByOne(int size, int classes) {
        StairLines x = new StairLines();
        x.step(9, 0, 1);
        for (int c = 0; c < classes; c++) {
            x.come(size, 9, 1);
        }
        return x;
    }

    /** "of d 0 .. 30: .. the least d by which nobody STANDS". */
    private static void apartFrom0To30() {
        for (int size = 1; size <= 30; size++) {
            DUE.is("as far as the size " + size, oneByOne(size, 2).apart(0), size);
        }
        DUE.is("31 would do", oneByOne(31, 2).apart(0), NONE);
        DUE.is("0 does", oneByOne(60, 1).apart(0), 0);
    }

    /** "BELLS 0, d, 2 d, .. of CLASSES by numbers". */
    private static void apartOfFiveClasses() {
        DUE.is("29", oneByOne(29, 5).apart(0), 29);
        DUE.is("30", oneByOne(30, 5).apart(0), 30);
        DUE.is("31 would do", oneByOne(31, 5).apart(0), NONE);
        for (int c = 0; c < 2; c++) {
            StairLines y = oneByOne(20, 2);
            y.set(0, c, 199);
            DUE.is("whatever bell class " + c + " has", y.apart(0), 20);
            rule(y, "9*(1<many)", "9", "0");
            DUE.is("soonest, whatever bell class " + c + " has", y.apart(1), 20);
        }
        StairLines x = oneByOne(1, 5);
        for (int c = 1; c < 5; c++) {
            x.set(0, c, 199);
        }
        x.tick();
        // the first is on the step; the other four would step on at once by d 0
        DUE.is("bells that have rung ring still", x.apart(0), 1);
    }

    /** No step is shut by it: two and two who step on at the same step must be one tick apart. */
    private static void apartOfEachFloor() {
        for (int s = 0; s <= 9; s++) {
            StairLines x = new StairLines();
            x.come(2, s, 2);
            DUE.is("nobody stands from floor " + s, x.apart(0), 0);
            x.come(2, s, 2);
            DUE.is("two of four stand from floor " + s, x.apart(0), 1);
            x.come(3, s, 3);
            DUE.is("one of three stands from floor " + s, x.apart(0), NONE);
        }
    }

    /** "NONE". */
    private static void apartOfNone() {
        EDGES.leaves("apart(0)", () -> oneByOne(31, 2), x -> x.apart(0), NONE);
        EDGES.leaves("apart(0) of who is stuck", () -> Edges.stuck(1), x -> x.apart(0), NONE);
    }

    /** RUN's 400 at most: nobody stands in them, though never all are out. */
    private static void apartBeyond400() {
        StairLines x = new StairLines();
        rule(x, "0", "0", "0");
        x.come(1, 3, 1);
        DUE.is("who never comes never stands", x.apart(0), 0);
        DUE.is("who comes in the last tick does not stand", comesInTick(399).apart(0), 0);
        DUE.is("who comes in the one ahead stands in the last", comesInTick(398).apart(0), NONE);
    }

    /** "SOONEST: that d by which ENDS is least": two at once are stuck for ever. */
    private static void soonestFrom0To30() {
        for (int size : new int[] {1, 2, 15, 29, 30}) {
            StairLines x = oneByOne(size, 2);
            rule(x, "9*(1<many)", "9", "0");
            DUE.is("as far as the size " + size, x.apart(1), size);
        }
        StairLines z = oneByOne(30, 5);
        rule(z, "9*(1<many)", "9", "0");
        DUE.is("five of the size 30", z.apart(1), 30);
        StairLines y = oneByOne(31, 2);
        rule(y, "9*(1<many)", "9", "0");
        DUE.is("31 would do", y.apart(1), 0);
        EDGES.leaves("apart(1)", Edges::busy, x -> x.apart(1), Edges.busy().apart(1));
    }

    /** "of like ones the least". */
    private static void soonestOfLikeOnes() {
        DUE.is("0 of all", oneByOne(9, 1).apart(1), 0);
        StairLines x = new StairLines();
        x.come(1, 0, 1);
        x.come(1, 9, 1);
        // the second may come 9 ticks behind the first
        DUE.is("0 of ten", x.apart(1), 0);
        StairLines y = new StairLines();
        y.come(4, 9, 4);
        y.come(4, 9, 4);
        DUE.is("1 of two", y.apart(1), 1);
    }

    /** One who steps on in that tick alone, and is stuck then. */
    private static StairLines comesInTick(int tick) {
        StairLines x = new StairLines();
        rule(x, "9", "tick=" + tick, "0");
        x.come(1, 3, 1);
        return x;
    }

    private static void soonestOfWhoNeverEnds() {
        DUE.is("400 by any", Edges.stuck(1).apart(1), 0);
    }

    // ---- order

    /** "whose BELL a CLASS has; ENDS then (class NONE). BAD." */
    private static void orderOfTheClassesThereAre() {
        EDGES.bounds("order of none", BAD, Edges::fresh, StairLines::order, -1, -1);
        EDGES.bounds("order of three", BAD, Edges::busy, StairLines::order, -1, 2);
        EDGES.bounds("order of five", BAD, Edges::full, StairLines::order, -1, 4);
    }

    private static void orderOfNobody() {
        DUE.is("nobody", new StairLines().order(NONE), 0);
    }

    private static void orderOfOne() {
        StairLines x = new StairLines();
        x.come(5, 3, 72);
        DUE.is("its own", x.order(0), 0);
        DUE.is("as it is", x.order(NONE), x.run(0));
    }

    /** "of all ways": the first and the last of 120 rows, and each that swaps two. */
    private static void orderOfFive() {
        for (int first = 0; first < 5; first++) {
            for (int other = first; other < 5; other++) {
                orderOf(first, other);
            }
        }
        StairLines x = lonely();
        for (int c = 0; c < 5; c++) {
            x.come(1, 9 - 2 * c, 20 * c + 1);
        }
        for (int c = 0; c < 5; c++) {
            DUE.is("the last row", x.order(c), 4 - c);
        }
        DUE.is("ends", x.order(NONE), 10);
    }

    /** Steps so wide that nobody stands. */
    private static StairLines lonely() {
        StairLines x = new StairLines();
        for (int s = 0; s <= 9; s++) {
            x.step(s, 0, 9);
        }
        return x;
    }

    /** The lower the floor, the later the bell may be; these two have each other's. */
    private static void orderOf(int first, int other) {
        StairLines x = lonely();
        int[] row = {0, 1, 2, 3, 4};
        row[first] = other;
        row[other] = first;
        for (int c = 0; c < 5; c++) {
            x.come(1, 2 * c, 20 * row[c] + 1);
        }
        for (int c = 0; c < 5; c++) {
            DUE.is("by " + first + " and " + other + ", class " + c, x.order(c), row[c]);
        }
        DUE.is("ends", x.order(NONE), 11);
    }

    /** "of like ones by which STOOD is least". */
    private static void orderByStood() {
        StairLines x = new StairLines();
        x.come(3, 9, 1);
        x.come(3, 9, 3);
        x.come(1, 0, 301);
        // the last is to have a bell 0; three at once are out sooner than three one by one, though one stands
        DUE.is("soonest", x.order(NONE), 33);
        DUE.is("ENDS is ahead of STOOD", x.order(1), 2);
        // the other way round it is 15 ticks, but nobody stands
        StairLines z = new StairLines();
        z.step(9, 4, 9);
        z.come(1, 9, 41);
        z.come(1, 0, 11);
        DUE.is("two stand", z.run(1), 2);
        DUE.is("soonest", z.order(NONE), 13);
        DUE.is("as it is", z.order(0), 0);
        DUE.is("as it is", z.order(1), 1);
        z.set(0, 0, 1);
        z.set(0, 1, 4);
        DUE.is("15 ticks", z.run(0), 15);
        DUE.is("nobody stands", z.run(1), 0);
        DUE.is("the other way round", z.order(0), 1);
        StairLines y = new StairLines();
        y.step(9, 1, 1);
        y.come(2, 9, 2);
        y.come(1, 8, 101);
        DUE.is("never ends", y.order(NONE), 400);
        DUE.is("the one is stuck for longer", y.order(0), 1);
        DUE.is("the two are stuck for less", y.order(1), 0);
        y.set(0, 1, 0);
        DUE.is("of like bells", y.order(0), 0);
    }

    /** "of like ones the first as a row". */
    private static void orderOfLikeOnes() {
        StairLines x = lonely();
        for (int c = 0; c < 5; c++) {
            x.come(1, 9, 20 * c + 1);
        }
        for (int c = 0; c < 5; c++) {
            DUE.is("any row is as good", x.order(c), c);
        }
        x.set(2, 0, 0);
        // class 0 must have one of the bells 0, none is as good: the others have the rest in order
        int[] row = {0, 1, 2, 3, 4};
        for (int c = 0; c < 5; c++) {
            DUE.is("the first has the first", x.order(c), row[c]);
        }
        x.set(2, 0, 9);
        x.set(2, 4, 0);
        int[] last = {1, 2, 3, 4, 0};
        for (int c = 0; c < 5; c++) {
            DUE.is("the last has the first", x.order(c), last[c]);
        }
        for (int c = 0; c < 5; c++) {
            x.set(0, c, 6);
        }
        for (int c = 0; c < 5; c++) {
            DUE.is("of like bells its own", x.order(c), c);
        }
    }

    /** As many stand by any row, and it takes as long. */
    private static void orderOfLikeOnesWhoStand() {
        StairLines x = new StairLines();
        for (int c = 0; c < 5; c++) {
            x.come(3, 9, 100 * c + 3);
        }
        DUE.is("one of each stands", x.run(1), 5);
        DUE.is("ends", x.order(NONE), 43);
        for (int c = 0; c < 5; c++) {
            DUE.is("its own", x.order(c), c);
        }
    }

    /** A bell that has rung and one that rings now are as good as another. */
    private static void orderOfBellsThatHaveRung() {
        for (int now = 0; now <= 3; now++) {
            StairLines x = lonely();
            Due.ticks(x, now);
            x.come(1, 9, 21);
            x.come(1, 0, 11);
            x.come(1, 9, 1);
            // class 1 is to have the first bell; from tick 1 on any that has rung
            int[][] rows = {{0, 2, 1}, {0, 1, 2}, {0, 1, 2}, {0, 1, 2}};
            for (int c = 0; c < 3; c++) {
                DUE.is("in tick " + now + " class " + c, x.order(c), rows[now][c]);
            }
            DUE.is("ends from tick " + now, x.order(NONE), 11);
        }
    }

    /** More are OUT than ticks have passed, so that bells of later ticks are less than that, too. */
    private static void orderWhenManyAreOut() {
        StairLines x = lonely();
        x.come(9, 9, 9);
        x.come(1, 9, 31);
        x.come(1, 0, 71);
        Due.ticks(x, 2);
        DUE.is("eight are out in two ticks", x.count(2), 8);
        // the last needs ten ticks, so it is to have the bell 0, which has rung
        int[] row = {1, 2, 0};
        for (int c = 0; c < 3; c++) {
            DUE.is("class " + c, x.order(c), row[c]);
        }
        DUE.is("one tick to step on, ten steps", x.order(NONE), 11);
    }

    private static void orderOfWhoNeverEnds() {
        StairLines x = Edges.queue(99);
        x.set(0, 4, 199);
        DUE.is("in 400 by none", x.order(NONE), 400);
        EDGES.leaves("order", Edges::busy, y -> y.order(NONE), Edges.busy().order(NONE));
    }

    // ---- shut, drill

    private static void shutOfSteps() {
        EDGES.bounds("step of shut", BAD, Edges::busy, (x, v) -> x.shut(v, 5), 0, 9);
    }

    /** "for the next k TICKS (0 .. 100)". */
    private static void shutFor0To100() {
        EDGES.bounds("ticks of shut", BAD, Edges::busy, (x, v) -> x.shut(9, v), 0, 100);
    }

    /** In the k-th of them nobody leaves, in the one behind it some do. */
    private static void shutTillTheLastTick() {
        for (int k = 0; k <= 100; k++) {
            StairLines x = Edges.crowded(9, 3);
            x.step(9, 0, 3);
            DUE.is("shut for " + k, x.shut(9, k), k + 1);
            DUE.is("another one is shut for " + k, x.shut(8, k), 1);
        }
        for (int s = 0; s <= 9; s++) {
            StairLines x = Edges.crowded(s, 1);
            x.step(s, 0, 1);
            DUE.is("step " + s, x.shut(s, 7), 7 + 10 - s);
        }
        StairLines y = new StairLines();
        DUE.is("nobody is there", y.shut(0, 100), 0);
        y.come(3, 0, 3);
        DUE.is("who is IN may step on", y.shut(0, 4), 15);
    }

    private static void shutOfWhoNeverEnds() {
        for (int k : new int[] {0, 1, 100}) {
            DUE.is("shut for " + k, Edges.stuck(1).shut(9, k), 400);
        }
        DUE.is("399 and 1", Edges.queue(98).shut(9, 100), 400);
        DUE.is("400 and 0", Edges.queue(99).shut(9, 100), 400);
        DUE.is("390 and 0", Edges.queue(89).shut(9, 90), 390);
        DUE.is("390 and 1", Edges.queue(89).shut(9, 91), 391);
        DUE.is("beyond", Edges.queue(100).shut(9, 100), 400);
    }

    private static void drillOfNobody() {
        DUE.is("nobody", new StairLines().drill(), 0);
        StairLines x = new StairLines();
        x.come(2, 9, 2);
        Due.ticks(x, 2);
        DUE.is("all are out", x.drill(), 0);
    }

    /** "if all BELLS were THE TICK": from the first tick on, whatever THE TICK is. */
    private static void drillOfLateBells() {
        StairLines x = new StairLines();
        x.step(9, 0, 9);
        for (int c = 0; c < 4; c++) {
            x.come(1, 9, 1991 - c * 490);
        }
        for (int t = 0; t < 5; t++) {
            DUE.is("all at once", x.drill(), 2);
            x.tick();
        }
        Due.ticks(x, 196);
        DUE.is("all are out behind the last bell", x.drill(), 0);
        x.come(1, 9, 1);
        DUE.is("in a tick beyond the last bell", x.drill(), 2);
        DUE.is("the queue of 300", Edges.queue(199).drill(), 301);
    }

    private static void drillOfWhoNeverEnds() {
        StairLines x = Edges.queue(0);
        x.step(9, 4, 1);
        DUE.is("one in two ticks", x.drill(), 400);
        DUE.is("stuck", Edges.stuck(2).drill(), 400);
    }

    // ---- judge, look

    /** "BAD: STEP, SHEET; -11". */
    private static void judgeRefuses() {
        EDGES.bounds("step of judge", BAD, Edges::busy, (x, v) -> x.judge(v, 0), 0, 9);
        EDGES.takes("sheet of judge", Edges::busy, (x, v) -> x.judge(0, v), 0, 1, 2);
        EDGES.refuses("sheet of judge", BAD, Edges::busy, (x, v) -> x.judge(0, v), -1, 4, Edges.MIN, Edges.MAX);
        EDGES.refuses("missing sheet", Edges.MISSING, Edges::busy, (x, v) -> x.judge(v, 3), 0, 9);
        EDGES.refuses("step ahead of missing sheet", BAD, Edges::busy, (x, v) -> x.judge(v, 3), -1, 10);
        EDGES.refuses("missing sheets at first", Edges.MISSING, Edges::fresh, (x, v) -> x.judge(0, v), 0, 1, 2, 3);
    }

    private static void judgeOfAnEmptySheet() {
        StairLines x = Edges.stuck(2);
        for (int sort = 0; sort < 3; sort++) {
            x.sheet(sort, sort, 0);
            DUE.is("nothing is otherwise", x.judge(9, sort), NONE);
        }
    }

    private static void judgeOf40() {
        StairLines x = Edges.stuck(2);
        int[] twos = new int[40];
        java.util.Arrays.fill(twos, 2);
        Due.row(x, 0, twos);
        DUE.is("all are so", x.judge(9, 0), NONE);
        for (int i = 39; i >= 0; i--) {
            x.cell(0, i, i % 2 == 0 ? 1 : 3);
            DUE.is("the first that is otherwise", x.judge(9, 0), i);
        }
    }

    /** "the first (from 0)": at the end of the first TICK, not ahead of it. */
    private static void judgeOfTheFirst() {
        StairLines x = Edges.crowded(9, 5);
        x.step(9, 0, 3);
        Due.row(x, 0, 2, 0, 0);
        DUE.is("as ticks end", x.judge(9, 0), NONE);
        Due.row(x, 0, 5, 2, 0);
        DUE.is("as ticks begin", x.judge(9, 0), 0);
        Due.row(x, 0, 2, 0, 1);
        DUE.is("behind all are out", x.judge(9, 0), 2);
        Due.row(x, 0, 0, 3, 0);
        DUE.is("another step", x.judge(8, 0), 1);
    }

    private static void judgeOfBits() {
        StairLines x = Edges.stuck(2);
        int[][] cells = {{2, 258, -254, 65538}, {2, 65538, -65534, 131074}, {2, 2, 2, 2}};
        for (int sort = 0; sort < 3; sort++) {
            x.sheet(0, sort, 4);
            for (int i = 0; i < 4; i++) {
                x.cell(0, i, cells[sort][i]);
            }
            DUE.is("as bits of sort " + sort, x.judge(9, 0), NONE);
        }
        x.cell(0, 3, 258);
        DUE.is("an int", x.judge(9, 0), 3);
        x.cell(0, 2, Edges.MIN);
        DUE.is("the least", x.judge(9, 0), 2);
        x.cell(0, 1, Edges.MAX);
        DUE.is("the most", x.judge(9, 0), 1);
        x.cell(0, 0, -2);
        DUE.is("below 0", x.judge(9, 0), 0);
        int judged = Edges.busy().judge(9, 1);
        EDGES.leaves("judge", Edges::busy, y -> y.judge(9, 1), judged);
    }

    private static void lookOfSteps() {
        EDGES.bounds("step of look", BAD, Edges::busy, (x, v) -> x.look(v, 5), 0, 9);
    }

    /** "the next n TICKS (0 .. 400)". */
    private static void lookAt0To400() {
        EDGES.bounds("ticks of look", BAD, Edges::busy, (x, v) -> x.look(9, v), 0, 400);
    }

    /** "full .. (as many as HOLDS)": one less is not. */
    private static void lookIsOfFullOnes() {
        int[] holds = {4, 2, 6, 1, 12, 2};
        for (int kind = 0; kind < 6; kind++) {
            for (int n = 1; n <= holds[kind]; n++) {
                StairLines x = new StairLines();
                x.step(9, kind, 1);
                x.come(Math.min(9, n), 9, 9);
                if (n > 9) {
                    x.come(n - 9, 9, 9);
                }
                DUE.is("kind " + kind + " full of " + n, x.look(9, 1), n == holds[kind] ? 1 : 0);
            }
        }
        DUE.is("nobody is not full", new StairLines().look(0, 400), 0);
        StairLines x = Edges.crowded(9, 8);
        x.step(9, 0, 2);
        DUE.is("full now, but not as the tick ends", x.look(9, 1), 0);
    }

    private static void lookAtAllOf400() {
        for (int n : new int[] {0, 1, 399, 400}) {
            DUE.is("full in all of " + n, Edges.stuck(2).look(9, n), n);
            DUE.is("never full in " + n, Edges.stuck(1).look(9, n), 0);
        }
        StairLines x = Edges.queue(99);
        DUE.is("full till 399", x.look(9, 399), 300);
        DUE.is("the 400th is empty", x.look(9, 400), 300);
        StairLines y = Edges.queue(101);
        DUE.is("the last is beyond", y.look(9, 400), 299);
        DUE.is("so is another", y.look(9, 399), 298);
        int look = Edges.busy().look(4, 30);
        EDGES.leaves("look", Edges::busy, z -> z.look(4, 30), look);
    }

    // ---- drawn

    /** When one who steps on step 0 in the first tick is out, reckoned without any int. */
    private static int wayOfOne(int seed) {
        long z = seed & 0xffffffffL;
        int step = -1;
        int ticks = 0;
        while (step <= 9) {
            z = (z * 1103515245L + 12345L) & 0xffffffffL;
            boolean isShut = (z >> 8) % 5 == 0 && (z >> 12) % 10 == step;
            step += isShut ? 0 : 1;
            ticks++;
        }
        return ticks;
    }

    /** "z = z * 1103515245 + 12345 (an int; SEED at first)". */
    private static void drawnOfAnySeed() {
        StairLines x = new StairLines();
        x.come(1, 0, 1);
        for (int seed : new int[] {0, 1, -1, Edges.MIN, Edges.MAX, Edges.MIN + 1, Edges.MAX - 1}) {
            DUE.is("drawn by " + seed, x.drawn(seed), wayOfOne(seed));
        }
        int slowest = 0;
        for (int n = 0; n < 400; n++) {
            int seed = n * 92821 * (n % 2 == 0 ? 1 : -23);
            DUE.is("drawn by " + seed, x.drawn(seed), wayOfOne(seed));
            slowest = Math.max(slowest, wayOfOne(seed));
        }
        DUE.holds("some are slowed", slowest > 12);
        EDGES.leaves("drawn", Edges::busy, y -> y.drawn(-5), Edges.busy().drawn(-5));
    }

    private static void drawnOfNobody() {
        DUE.is("nobody", new StairLines().drawn(5), 0);
        StairLines x = new StairLines();
        x.come(1, 9, 1);
        Due.ticks(x, 2);
        DUE.is("all are out", x.drawn(5), 0);
    }

    private static void drawnOfWhoNeverEnds() {
        for (int seed : new int[] {0, 1, -1, Edges.MIN, Edges.MAX}) {
            DUE.is("stuck", Edges.stuck(1).drawn(seed), 400);
            DUE.is("a queue beyond", Edges.queue(100).drawn(seed), 400);
        }
    }

    // ---- image, back

    /** "STATE: there is none". */
    private static void backWithoutAnImage() {
        EDGES.leaves("back", Edges::fresh, StairLines::back, STATE);
        EDGES.leaves("back", Edges::full, StairLines::back, STATE);
        EDGES.leaves("back", () -> Edges.crowded(3, 20), StairLines::back, STATE);
    }

    private static void imageOfANewObject() {
        StairLines x = new StairLines();
        DUE.is("image", x.image(), 0);
        for (int c = 0; c < 5; c++) {
            x.come(9, c, 9);
        }
        x.step(7, 3, 1);
        Due.ticks(x, 9);
        DUE.is("back", x.back(), 0);
        int[] is = Due.state(x);
        int[] was = Due.state(new StairLines());
        for (int i = 0; i < was.length; i++) {
            DUE.is("state " + i, is[i], was[i]);
        }
        for (int c = 0; c < 5; c++) {
            DUE.is("there is room for five", x.come(9, c, 9), c);
        }
        DUE.is("all five go", x.back(), 0);
        DUE.is("no classes", x.count(0), 0);
    }

    /** Of all five classes and all ten steps. */
    private static void imageOfAFullObject() {
        Edges.Build kept = () -> {
            StairLines x = Edges.full();
            Due.ticks(x, 4);
            x.image();
            return x;
        };
        EDGES.leaves("all is changed, and back", kept, x -> {
            for (int s = 0; s <= 9; s++) {
                x.step(s, 2, 9);
            }
            for (int c = 0; c < 5; c++) {
                x.set(0, c, 17 + c);
                x.set(1, c, 9 - c);
                x.set(2, c, 9 - c);
            }
            x.force(5);
            Due.ticks(x, 50);
            return x.back();
        }, 4);
    }

    private static void keeps(String what, Edges.Call change) {
        Edges.Build kept = () -> {
            StairLines x = Edges.busy();
            x.image();
            return x;
        };
        EDGES.leaves(what + ", and back", kept, x -> {
            DUE.holds(what, change.on(x) >= 0);
            return x.back();
        }, 5);
    }

    /** "KINDS and WIDTHS of STEPS, BELLS, EVERY, FLOORS of CLASSES, who is where, THE TICK, THE RULE". */
    private static void imageKeepsAllItSays() {
        for (int s = 0; s <= 9; s++) {
            int of = s;
            keeps("kind of " + s, x -> x.step(of, 4, x.told(of, 1)));
            keeps("width of " + s, x -> x.step(of, x.told(of, 0), 9));
        }
        for (int c = 0; c < 3; c++) {
            int of = c;
            keeps("bell of " + c, x -> x.set(0, of, 99));
            keeps("every of " + c, x -> x.set(1, of, 5));
            keeps("floor of " + c, x -> x.set(2, of, 5));
        }
        keeps("a tick", StairLines::tick);
        keeps("many ticks", x -> {
            Due.ticks(x, 30);
            return x.count(2);
        });
        keeps("the rule", x -> x.force(0));
        keeps("a class that came", x -> x.come(60, 0, 9));
        keeps("classes that came by a sheet", x -> x.classes(0, 0, 0, 2));
        keeps("a class that came and went down", x -> {
            x.come(1, 9, 1);
            x.tick();
            return x.tick();
        });
    }

    /** TEXTS, THE TAPE and SHEETS are not in it. */
    private static void imageKeepsNothingElse() {
        StairLines x = new StairLines();
        Due.text(x, "slows 9;comes 9;minds 9;");
        x.force(1);
        Due.feed(x, "slows");
        Due.row(x, 0, 3, 4, 5);
        x.image();
        Due.feed(x, " 0;comes 1;minds 2;");
        DUE.is("a text", x.text(), 2);
        x.force(2);
        Due.feed(x, "abc");
        Due.row(x, 0, 0, 0);
        Due.row(x, 1, 1);
        DUE.is("back", x.back(), 0);
        DUE.is("texts stay", x.count(5), 3);
        DUE.is("the tape stays", x.count(6), 3);
        DUE.is("the rule is back", x.count(7), 1);
        DUE.is("a sheet stays as it became", x.judge(0, 0), NONE);
        DUE.is("a sheet stays", x.judge(0, 1), 0);
        DUE.is("a text stays as it was read", x.force(2), 1);
        x.come(9, 0, 9);
        DUE.is("comes 1", x.on(0, 1), 1);
    }

    private static void imageIsKeptByBack() {
        StairLines x = Edges.crowded(5, 9);
        DUE.is("image", x.image(), 1);
        for (int n = 0; n < 5; n++) {
            Due.ticks(x, n + 1);
            x.step(5, 2, 7);
            DUE.is("back", x.back(), 1);
            DUE.is("they are there", x.told(5, 4), 9);
            DUE.is("it is a gate", x.told(5, 0), 4);
        }
        DUE.is("back without any change", x.back(), 1);
    }

    private static void imageIsTheLast() {
        StairLines x = Edges.crowded(5, 9);
        for (int n = 1; n <= 6; n++) {
            DUE.is("image", x.image(), n);
            x.tick();
            DUE.is("back", x.back(), n);
            x.tick();
        }
        DUE.is("back to the last", x.back(), 6);
    }

    // ---- count

    /** "How many: 0 CLASSES .. 7 THE RULE. BAD." */
    private static void countOfEight() {
        EDGES.bounds("count", BAD, Edges::busy, StairLines::count, 0, 7);
        EDGES.bounds("count of nothing", BAD, Edges::fresh, StairLines::count, 0, 7);
    }

    private static void countFromEmptyToFull() {
        StairLines x = Edges.full();
        x.force(5);
        Due.ticks(x, 2);
        int[] due = {5, 2, 0, 5 * 6, 9 + 10 + 11 + 12 + 13 - 5 * 6, 6, 160, 5};
        for (int what = 0; what < 8; what++) {
            DUE.is("count " + what, x.count(what), due[what]);
        }
        DUE.is("out, on steps and in are all", x.count(2) + x.count(3) + x.count(4), 55);
        Due.ticks(x, 80);
        DUE.is("all are out", x.count(2), 55);
        DUE.is("nobody is on a step", x.count(3), 0);
        DUE.is("nobody is in", x.count(4), 0);
    }

    private static void looksAheadChangeNothing() {
        for (int k : new int[] {0, 30, 100}) {
            EDGES.leaves("shut", Edges::busy, x -> x.shut(9, k), Edges.busy().shut(9, k));
        }
        EDGES.leaves("drill", Edges::busy, StairLines::drill, Edges.busy().drill());
        EDGES.leaves("widen", Edges::busy, StairLines::widen, Edges.busy().widen());
        EDGES.leaves("later of all", Edges::full, StairLines::later, Edges.full().later());
        EDGES.leaves("apart(0)", Edges::full, x -> x.apart(0), Edges.full().apart(0));
        EDGES.leaves("order of all", Edges::full, x -> x.order(4), Edges.full().order(4));
    }
}
