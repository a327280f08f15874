/** Promises 6 to 8 and what a text says, at their edges: each test is of one sentence that names a bound. */
public final class EdgesOfTextsTest {
    private static final Due DUE = new Due();
    private static final Edges EDGES = new Edges(DUE);
    private static final int BAD = StairLines.BAD, FULL = StairLines.FULL;
    private static final String PLAIN = "slows 0;comes 9;minds 1;";
    private static final String LEAST_INT = "2048*1024*1024", MOST_INT = "2048*1024*1024-1";

    public static void main(String[] args) {
        DUE.promise(6);
        bytesAre0To255();
        theTapeHas160Bytes();
        badIsAheadOfTheFullTape();
        DUE.promise(7);
        aTextOf160Bytes();
        faultsAtTheEndsOf160Bytes();
        theTapeIsEmptyThen();
        tokensAreAsLongAsCanBe();
        wordsAreOfTheLettersAToZ();
        numbersAreOfTheDigits0To9();
        numbersHaveFourDigitsAtMost();
        blanksAre32And10();
        eightSigns();
        byteThatBeginsNoToken();
        tooEarlyIsAtTheTextsSize();
        behindTheLastSignNothingStands();
        theFirstFaultIsTold();
        keysAreNoNames();
        oneComparisonAtMost();
        chainsHaveNoEnd();
        fiveMayBeOpen();
        theSixthMayNotBeOpen();
        whatHasEndedIsNotOpen();
        whatHasNotEndedIsOpen();
        sixTexts();
        fullIsAheadOfAll();
        aFaultTakesNoNumber();
        aFaultLeavesNothing();
        DUE.promise(8);
        forceOfTheTextsThereAre();
        forceTellsWhichWas();
        DUE.promise(7, 9);
        signsAnswer1Or0();
        whatIsNot0IsTrue();
        intsWrap();
        comparisonsDoNotWrap();
        comesIs0AtLeast();
        comesIs9AtMost();
        DUE.promise(7, 10, 11);
        slowsIs0AtLeast();
        slowsIs9AtMost();
        mindsIs0AtLeast();
        mindsIs99AtMost();
        aheadBehindStep9Is0();
        leftOfComesIsOfOneClass();
        leftOfTheOthersIsOfAllClasses();
        namesAtTheirEnds();
        DUE.promise(1, 10, 11);
        textZeroSlowsBehindSeven();
        textZeroIsTheRuleAtFirst();
        DUE.end();
    }

    private static void is(String tape, int answer) {
        DUE.is("[" + tape + "]", Due.text(new StairLines(), tape), answer);
    }

    /** An E that may stand there. */
    private static void good(String e) {
        is("slows " + e + ";comes 9;minds 1;", 1);
        is("slows 0;comes " + e + ";minds 1;", 1);
        is("slows 0;comes 9;minds " + e + ";", 1);
    }

    /** An E whose byte at a place can't stand there; and the tape is empty, and there is no text more. */
    private static void fault(String e, int place) {
        EDGES.leaves("fault of " + e, EdgesOfTextsTest::emptyTape, x -> Due.text(x, "slows " + e + ";comes 9;minds 1;"),
            -106 - place);
        is("slows 0;comes 9;minds " + e + ";", -122 - place);
    }

    private static StairLines emptyTape() {
        StairLines x = Edges.busy();
        x.text();
        return x;
    }

    /** "A byte (0 .. 255)". */
    private static void bytesAre0To255() {
        EDGES.bounds("feed", BAD, Edges::busy, StairLines::feed, 0, 255);
    }

    /** "THE TAPE (160 bytes at most)". */
    private static void theTapeHas160Bytes() {
        StairLines x = new StairLines();
        DUE.is("empty at first", x.count(6), 0);
        for (int n = 1; n <= 160; n++) {
            DUE.is("feed", x.feed(' '), n);
            DUE.is("bytes of the tape", x.count(6), n);
        }
        DUE.is("full", x.feed(' '), FULL);
        DUE.is("as many as ahead", x.count(6), 160);
        EDGES.leaves("feed when full", Edges::full, y -> y.feed(' '), FULL);
        EDGES.leaves("feed when full of a text", () -> tape(" ".repeat(136) + PLAIN), y -> y.feed('x'), FULL);
    }

    private static StairLines tape(String bytes) {
        StairLines x = new StairLines();
        Due.feed(x, bytes);
        return x;
    }

    private static void badIsAheadOfTheFullTape() {
        EDGES.refuses("feed when full", BAD, Edges::full, StairLines::feed, -1, 256);
    }

    private static void aTextOf160Bytes() {
        is(" ".repeat(136) + PLAIN, 1);
        is(PLAIN + "\n".repeat(136), 1);
        is("slows " + "0+".repeat(68) + PLAIN.substring(6), 1);
        is("slows " + "-0-".repeat(45) + PLAIN.substring(6), 1);
        is("slows " + "0*".repeat(68) + "0;comes9;minds1;", 1);
    }

    private static void faultsAtTheEndsOf160Bytes() {
        is(" ".repeat(160), -260);
        is("?" + " ".repeat(159), -100);
        is(" ".repeat(159) + "?", -259);
        is(PLAIN + " ".repeat(135) + "1", -259);
        is(" ".repeat(137) + PLAIN.substring(0, 23), -260);
        is("slows " + "0+".repeat(77), -260);
        is("slows " + "a".repeat(154), -106);
        is("slows " + "1".repeat(154), -106);
        is(" ".repeat(155) + "slows", -260);
        is(" ".repeat(155) + "slowz", -255);
        // what ends at the tape's end is a word or a number all the same
        is("slows " + "0+".repeat(75) + "many", -260);
        is("slows " + "0+".repeat(75) + "9999", -260);
    }

    /** "THE TAPE, which is empty then (by a FAULT, too)". */
    private static void theTapeIsEmptyThen() {
        StairLines x = new StairLines();
        DUE.is("a text", Due.text(x, PLAIN), 1);
        DUE.is("empty by a text", x.count(6), 0);
        DUE.is("nothing is a fault", x.text(), -100);
        DUE.is("a fault", Due.text(x, PLAIN + "9"), -124);
        DUE.is("empty by a fault", x.count(6), 0);
        DUE.is("the next byte is the first", x.feed('s'), 1);
        DUE.is("a text again", Due.text(x, PLAIN.substring(1)), 2);
    }

    /** "TOKENS, each as long as can be". */
    private static void tokensAreAsLongAsCanBe() {
        fault("manymany", 0);
        fault("tickx", 0);
        fault("wid", 0);
        fault("notmany", 0);
        fault("1 ormany", 2);
        fault("99999", 0);
        good("(9)+9999");
        good("1or many");
        good("1and 1");
        fault("1and1or1and", 8 + 3);
        is("slows0;comes9;minds1;", 1);
        is("slowsmany;comes9;minds1;", -100);
        is("slow s0;comes9;minds1;", -100);
    }

    /** "WORDS (a .. z)". */
    private static void wordsAreOfTheLettersAToZ() {
        for (int b : new int[] {'a' - 1, 'z' + 1, 'A', 'Z', '_', 'a' + 128, 'z' + 128}) {
            fault("man" + (char) b, 0);
            fault("many" + (char) b, 4);
            fault("1+" + (char) b, 2);
        }
        for (char b = 'a'; b <= 'z'; b++) {
            fault("1+" + b, 2);
            fault("many" + b, 0);
        }
        for (String name : new String[] {"cell", "many", "tick", "ahead", "wide", "left"}) {
            good(name);
            fault(name.substring(1), 0);
            fault(name.substring(0, name.length() - 1), 0);
            fault(name.substring(0, name.length() - 1) + "z", 0);
            fault("z" + name.substring(1), 0);
        }
    }

    private static void numbersAreOfTheDigits0To9() {
        for (char b = '0'; b <= '9'; b++) {
            good("" + b);
            good("1" + b);
        }
        fault("1" + (char) ('0' - 1), 1);
        fault("1" + (char) ('9' + 1), 1);
        fault("" + (char) ('0' - 1), 0);
        fault("" + (char) ('9' + 1), 0);
    }

    /** "NUMBERS (as many digits as stand there, 4 at most)"; "a NUMBER that is too long". */
    private static void numbersHaveFourDigitsAtMost() {
        good("9999");
        good("0000");
        fault("10000", 0);
        fault("00000", 0);
        fault("00001", 0);
        fault("1+99999", 2);
        fault("4294967297", 0);
        fault("1".repeat(60), 0);
        DUE.is("all four digits count", e("1+(1234=1000+234)*8"), 9);
        DUE.is("9999", e("9*(9998<9999)*(9999<10*1000)"), 9);
        DUE.is("digits ahead are no octals", e("0009"), 9);
    }

    /** "blanks (32, 10) may stand between". */
    private static void blanksAre32And10() {
        is(" \n slows \n 0 \n ; \n comes \n 9 \n ; \n minds \n 1 \n ; \n ", 1);
        good("\n(\n1\n<\n2\n)\n");
        for (int b : new int[] {0, 9, 11, 12, 13, 31, 33, 127, 160, 255}) {
            fault("1" + (char) b, 1);
            fault((char) b + "1", 0);
        }
        fault("ma ny", 0);
        fault("1 2", 2);
    }

    /** "SIGNS ( ) ; + - * < =". */
    private static void eightSigns() {
        good("(1+2-3*4<5)");
        good("1=1");
        for (int b = 33; b < 127; b++) {
            char c = (char) b;
            boolean letterOrDigit = c >= 'a' && c <= 'z' || c >= '0' && c <= '9';
            if (!letterOrDigit && "();+-*<=".indexOf(c) < 0) {
                fault("1" + c + "1", 1);
            }
        }
        // each is a token of its own
        fault("1<=2", 2);
        fault("1==2", 2);
        fault("1**2", 2);
        fault("1++2", 2);
        good("1--2");
    }

    /** "also of a byte that begins none". */
    private static void byteThatBeginsNoToken() {
        for (int b : new int[] {0, 1, 47, 58, 64, 91, 96, 123, 128, 254, 255}) {
            fault("" + (char) b, 0);
            fault("1 " + (char) b, 2);
            is((char) b + PLAIN, -100);
            is(PLAIN + (char) b, -124);
        }
    }

    /** "(the text's size, if it ends too early)". */
    private static void tooEarlyIsAtTheTextsSize() {
        String text = "slows(-1+many*not)";
        is("", -100);
        is(" ", -101);
        for (int n = 0; n <= 5; n++) {
            is("slows".substring(0, n), n == 0 || n == 5 ? -100 - n : -100);
        }
        for (int n : new int[] {5, 6, 7, 8, 9, 13, 14}) {
            is(text.substring(0, n), -100 - n);
            is(text.substring(0, n) + " \n ", -103 - n);
        }
        for (int n : new int[] {7, 8, 13, 15, 16, 21, 23}) {
            is(PLAIN.substring(0, n), -100 - n);
        }
    }

    /** "TEXT: slows E ; comes E ; minds E ;", and no more. */
    private static void behindTheLastSignNothingStands() {
        is(PLAIN, 1);
        is(PLAIN + " ", 1);
        is(PLAIN + ";", -124);
        is(PLAIN + " ;", -125);
        is(PLAIN + "slows", -124);
        // what is no TOKEN at all can't stand there either
        is(PLAIN + "x", -124);
        is(PLAIN + " manymany", -125);
        is(PLAIN + "99999", -124);
        is(PLAIN + "many", -124);
        is(PLAIN + "or", -124);
        is(PLAIN + PLAIN, -124);
        is(PLAIN + ")", -124);
        is(PLAIN + "?", -124);
        is("comes 9;slows 0;minds 1;", -100);
        is("slows 0;minds 1;comes 9;", -108);
        is("slows 0;comes 9;comes 9;", -116);
        is(";" + PLAIN, -100);
    }

    /** "the first byte of the first TOKEN that can't stand there". */
    private static void theFirstFaultIsTold() {
        fault("1 ) ?", 2);
        fault("1 ? )", 2);
        fault("(1 ; ?", 3);
        fault("1 2 99999", 2);
        fault("99999 2 )", 0);
        fault("( ) man", 2);
        fault("((((((1", 5);
        fault("((((( ?", 6);
        fault("1 many cellx", 2);
    }

    /** "slows, comes, minds, or, and, not are KEYS". */
    private static void keysAreNoNames() {
        for (String key : new String[] {"slows", "comes", "minds", "or", "and"}) {
            fault(key, 0);
            fault("1+" + key, 2);
            fault("-" + key, 1);
            fault("(" + key + ")", 1);
            fault("not " + key, 4);
        }
        fault("1+not 1", 2);
        fault("1*not 1", 2);
        fault("1<not 1", 2);
        fault("-not 1", 1);
        good("(not 1)");
        good("1 or not 1");
        good("1 and not 1");
        fault("1 not 1", 2);
        fault("many not", 5);
    }

    /** "NOT: not NOT, or SUM, perhaps < or = and a SUM". */
    private static void oneComparisonAtMost() {
        good("1<2");
        good("1=2");
        fault("1<2<3", 3);
        fault("1<2=3", 3);
        fault("1=2<3", 3);
        fault("1=2=3", 3);
        fault("not 1=2=3", 7);
        good("(1=2)=3");
        good("1=(2=3)");
        good("1<2 and 2<3 or 3=4");
        fault("<1", 0);
        fault("1<", 2);
    }

    /** "AND { or AND }", "NOT { and NOT }", "TERM { + or - TERM }", "ONE { * ONE }": from none to as many as can be. */
    private static void chainsHaveNoEnd() {
        good("1");
        for (String sign : new String[] {"+", "-", "*"}) {
            good("1" + (sign + "1").repeat(68));
            good("(1" + (sign + "1").repeat(60) + ")");
        }
        good("1" + " or 1".repeat(27));
        good("1" + " and 1".repeat(22));
        DUE.is("sum of many", e("0" + "+1-1".repeat(32) + "+7"), 7);
        DUE.is("product of many", e("1" + "*1".repeat(65) + "*7"), 7);
        DUE.is("or of many", e("0" + " or 0".repeat(26) + " or 7"), 1);
        DUE.is("or of many that are 0", e("0" + " or 0".repeat(27)), 0);
        DUE.is("and of many", e("7" + " and 7".repeat(22)), 1);
        DUE.is("and of many, the last is 0", e("7" + " and 7".repeat(21) + " and 0"), 0);
        DUE.is("as deep as can be", e("0+1*(".repeat(5) + "0+1*7" + ")".repeat(5)), 7);
        DUE.is("as much as can wait", e("0 or 1 and 1=0+1*(".repeat(5) + "0 or 1 and 7=0+1*7" + ")".repeat(5)), 1);
    }

    /** "while 5 of these are open": the fifth may be opened. */
    private static void fiveMayBeOpen() {
        good("(((((1)))))");
        good("not not not not not 1");
        good("-----1");
        good("(not -(-1))");
        good("not (not (-1))");
        good("not not (-(1))");
        good("----(1)");
        good("not not not not -1");
        good("not not not not (1)");
        good("((((-1))))");
        good("((((not 1))))");
    }

    /** "a ( , a not, a - ahead of a ONE while 5 of these are open". */
    private static void theSixthMayNotBeOpen() {
        String[] five = {"(((((", "not not not not not ", "-----", "(not -(-", "not (not (-", "not not (-(", "((((-", "((((not "};
        for (String open : five) {
            fault(open + "(1", open.length());
            fault(open + "-1", open.length());
            // behind a - stands a ONE, and no not whatever is open
            fault(open + "not 1", open.length());
        }
        fault("((((((1))))))", 5);
        fault("1+(((((1*(2)))))", 9);
        fault("1+(((((1--2)))))", 9);
        fault("1+(((((1 and not 2)))))", 13);
    }

    /** "a ( till its ) , not and - till what they belong to ends". */
    private static void whatHasEndedIsNotOpen() {
        good("(((((1)))))+(((((1)))))");
        good("(((((1))))*((((1)))))");
        good("not not not not not 1 and not not not not not 1");
        good("not not not not not 1 or (1)");
        good("not not not not not 1<2 and (1)");
        good("-----1--(1)");
        good("-----1*-----1");
        good("-----1+(((((1)))))");
        good("-----1-----1");
        good("-(-(-1))*(-(-(1)))");
        good("(((((1-1)))))");
        is("slows (((((1)))));comes -----1;minds not not not not not 1;", 1);
    }

    private static void whatHasNotEndedIsOpen() {
        fault("not not not not not 1<(1)", 22);
        fault("not not not not not 1*(1)", 22);
        fault("not not not not not 1+-1", 22);
        fault("not not not not not 1--1", 22);
        fault("(((((1)+((1", 9);
        fault("(((((1))))*(((((1", 15);
        fault("(((((1 or (1", 10);
        fault("not (((((1", 8);
        fault("-(((((1", 5);
    }

    private static StairLines fiveTexts() {
        StairLines x = new StairLines();
        for (int n = 1; n <= 4; n++) {
            Due.text(x, "slows 0;comes " + n + ";minds 1;");
        }
        return x;
    }

    /** "There are 6 TEXTS at most, TEXT 0 with them". */
    private static void sixTexts() {
        StairLines x = new StairLines();
        for (int n = 1; n <= 5; n++) {
            DUE.is("there are", x.count(5), n);
            DUE.is("there is room", Due.text(x, PLAIN), n);
        }
        DUE.is("six", x.count(5), 6);
        Due.feed(x, PLAIN);
        DUE.is("there is none", x.text(), FULL);
        DUE.is("six still", x.count(5), 6);
        StairLines y = fiveTexts();
        DUE.is("the sixth", Due.text(y, "slows 0;comes 5;minds 1;"), 5);
        y.come(60, 9, 9);
        for (int n = 0; n <= 5; n++) {
            y.force(n);
            DUE.is("text " + n + " is as it was read", y.on(9, 1), n == 0 ? 8 : n);
        }
    }

    /** "FULL (ahead of all): no TEXT more has room (THE TAPE stays)". */
    private static void fullIsAheadOfAll() {
        EDGES.leaves("text when full, of blanks", Edges::full, StairLines::text, FULL);
        Edges.Build fullWithATape = () -> {
            StairLines x = fiveTexts();
            Due.text(x, PLAIN);
            Due.feed(x, "slows ?");
            return x;
        };
        EDGES.leaves("text when full, of a fault", fullWithATape, StairLines::text, FULL);
        StairLines x = fullWithATape.made();
        x.text();
        DUE.is("the tape stays", x.count(6), 7);
        DUE.is("and goes on", x.feed('!'), 8);
        StairLines y = fiveTexts();
        Due.text(y, PLAIN);
        DUE.is("text when full, of nothing", y.text(), FULL);
    }

    private static void aFaultTakesNoNumber() {
        StairLines x = fiveTexts();
        for (int n = 0; n < 9; n++) {
            DUE.is("a fault", Due.text(x, "slows 9;comes 9;minds ?"), -122);
            DUE.is("five texts", x.count(5), 5);
        }
        DUE.is("there is room still", Due.text(x, PLAIN), 5);
    }

    /** Nothing of a text that had a FAULT is in the next one, which is read to the same place. */
    private static void aFaultLeavesNothing() {
        String[] faults = {"slows 9;comes 8;minds not 7 ?", "slows 9;comes 8;minds -7 ?", "slows 9*9*9*9;comes 1 or 1",
            "slows 0;comes 0;minds 0;?", "slows not not not 1;comes 5", "?"};
        for (String fault : faults) {
            StairLines x = Edges.stuck(2);
            DUE.holds("a fault", Due.text(x, fault) <= -100);
            DUE.is("a text", Due.text(x, "slows 1;comes 2;minds 3;"), 1);
            x.force(1);
            DUE.is("minds 3", x.run(2), 2 * 400 * 3);
            x.step(9, 0, 2);
            DUE.is("slows 1", x.on(9, 1), 1);
            x.come(9, 3, 9);
            DUE.is("comes 2", x.on(3, 1), 2);
        }
    }

    /** "A TEXT is THE RULE: which was. BAD." */
    private static void forceOfTheTextsThereAre() {
        EDGES.bounds("force of one", BAD, Edges::fresh, StairLines::force, 0, 0);
        EDGES.bounds("force of two", BAD, Edges::busy, StairLines::force, 0, 1);
        EDGES.bounds("force of six", BAD, Edges::full, StairLines::force, 0, 5);
    }

    private static void forceTellsWhichWas() {
        StairLines x = Edges.full();
        DUE.is("text 0 at first", x.force(5), 0);
        DUE.is("the last", x.force(5), 5);
        DUE.is("the last again", x.force(0), 5);
        DUE.is("the first", x.count(7), 0);
    }

    /** What an E is, 0 to 9: so many of a great class step on in a tick. */
    private static int e(String e) {
        return eOn(e, 4);
    }

    private static int eOn(String e, int floor) {
        StairLines x = new StairLines();
        DUE.is("[" + e + "]", Due.text(x, "slows0;comes " + e + ";minds0;"), 1);
        x.force(1);
        x.step(floor, 0, 9);
        x.come(60, floor, 9);
        x.tick();
        return x.told(floor, 4);
    }

    /** "of or, and, not, <, = 1 or 0". */
    private static void signsAnswer1Or0() {
        DUE.is("or", e("7 or 7"), 1);
        DUE.is("or of one", e("0 or 7"), 1);
        DUE.is("or of none", e("0 or 0"), 0);
        DUE.is("and", e("6 and 7"), 1);
        DUE.is("and of the first", e("7 and 0"), 0);
        DUE.is("and of the second", e("0 and 7"), 0);
        DUE.is("and of none", e("0 and 0"), 0);
        DUE.is("and of bits that are apart", e("4 and 3"), 1);
        DUE.is("not", e("not 7"), 0);
        DUE.is("not of 0", e("not 0"), 1);
        DUE.is("not not", e("not not 7"), 1);
        DUE.is("less", e("2<7"), 1);
        DUE.is("less of like ones", e("7<7"), 0);
        DUE.is("same", e("7=7"), 1);
        DUE.is("same by one less", e("6=7"), 0);
        DUE.is("same by one more", e("8=7"), 0);
        // comes below 0 would be 0, too
        for (String isFalse : new String[] {"0 or 0", "7 and 0", "0 and 7", "not 7", "7<2", "7<7", "6=7"}) {
            DUE.is("5 and " + isFalse, e("5+(" + isFalse + ")"), 5);
        }
        for (String isTrue : new String[] {"0 or 7", "7 or 0", "7 and 7", "not 0", "2<7", "7=7"}) {
            DUE.is("5 and " + isTrue, e("5+(" + isTrue + ")"), 6);
        }
    }

    /** "(what is not 0 is true)". */
    private static void whatIsNot0IsTrue() {
        for (String v : new String[] {"1", "2", "9999", "-1", "-9999", LEAST_INT, MOST_INT, "1-2"}) {
            DUE.is(v + " or", e("(" + v + ") or 0"), 1);
            DUE.is("or " + v, e("0 or (" + v + ")"), 1);
            DUE.is(v + " and", e("(" + v + ") and 1"), 1);
            DUE.is("and " + v, e("1 and (" + v + ")"), 1);
            DUE.is("not " + v, e("not (" + v + ")"), 0);
        }
        for (String v : new String[] {"0", "0000", "-0", "1-1", "4096*1024*1024"}) {
            DUE.is(v + " or", e("(" + v + ") or 0"), 0);
            DUE.is("or " + v, e("0 or (" + v + ")"), 0);
            DUE.is(v + " and", e("(" + v + ") and 1"), 0);
            DUE.is("and " + v, e("1 and (" + v + ")"), 0);
            DUE.is("not " + v, e("not (" + v + ")"), 1);
        }
    }

    /** "An E is an int (32 bits, wrapping)". */
    private static void intsWrap() {
        DUE.is("the least", e(LEAST_INT + "<0"), 1);
        DUE.is("the most", e("0<" + MOST_INT), 1);
        DUE.is("a sum wraps", e(MOST_INT + "+1=" + LEAST_INT), 1);
        DUE.is("a difference wraps", e(LEAST_INT + "-1=" + MOST_INT), 1);
        DUE.is("a product wraps", e("2048*2048*1024+5"), 5);
        DUE.is("a product wraps below 0", e("2048*2048*512<0"), 1);
        DUE.is("a product just below", e("2047*1024*1024<0"), 0);
        DUE.is("the least has no opposite", e("-(" + LEAST_INT + ")=" + LEAST_INT), 1);
        DUE.is("the opposite of the most", e("-(" + MOST_INT + ")=" + LEAST_INT + "+1"), 1);
        DUE.is("the least by -1", e(LEAST_INT + "*-1<0"), 1);
        DUE.is("9999 thrice, 999700029999 modulo 2 to 32", e("9999*9999*9999=-1027*1000*1000-349*1000-969"), 1);
        DUE.is("it wraps back", e(MOST_INT + "+7-(" + MOST_INT + ")"), 7);
    }

    /** A < that took one side from the other would wrap. */
    private static void comparisonsDoNotWrap() {
        DUE.is("least < 1", e(LEAST_INT + "<1"), 1);
        DUE.is("1 < least", e("1<" + LEAST_INT), 0);
        DUE.is("-2 < most", e("-2<" + MOST_INT), 1);
        DUE.is("most < -2", e(MOST_INT + "<-2"), 0);
        DUE.is("least < most", e(LEAST_INT + "<" + MOST_INT), 1);
        DUE.is("most < least", e(MOST_INT + "<" + LEAST_INT), 0);
        DUE.is("least = most", e(LEAST_INT + "=" + MOST_INT), 0);
    }

    /** "comes: .. (0 .. 9, else the bound)". */
    private static void comesIs0AtLeast() {
        DUE.is("0", e("0"), 0);
        DUE.is("1", e("1"), 1);
        DUE.is("-1", e("-1"), 0);
        DUE.is("-9999", e("-9999"), 0);
        DUE.is("the least", e(LEAST_INT), 0);
    }

    private static void comesIs9AtMost() {
        DUE.is("8", e("8"), 8);
        DUE.is("9", e("9"), 9);
        DUE.is("10", e("10"), 9);
        DUE.is("9999", e("9999"), 9);
        DUE.is("the most", e(MOST_INT), 9);
    }

    /** How many of nine stay on the widest step 9, which passes nine. */
    private static int slowed(String e) {
        StairLines x = Edges.crowded(9, 9);
        x.step(9, 0, 9);
        DUE.is("[" + e + "]", Due.text(x, "slows " + e + ";comes0;minds0;"), 1);
        x.force(1);
        return x.on(9, 1);
    }

    /** "slows: .. (0 .. 9, else the bound)". */
    private static void slowsIs0AtLeast() {
        DUE.is("0", slowed("0"), 0);
        DUE.is("1", slowed("1"), 1);
        for (String e : new String[] {"-1", "-9999", LEAST_INT}) {
            StairLines x = Edges.crowded(9, 9);
            x.step(9, 0, 5);
            Due.text(x, "slows " + e + ";comes0;minds0;");
            x.force(1);
            DUE.is("no more leave by slows " + e, x.on(9, 1), 4);
        }
    }

    private static void slowsIs9AtMost() {
        DUE.is("8", slowed("8"), 8);
        DUE.is("9", slowed("9"), 9);
        DUE.is("10", slowed("10"), 9);
        DUE.is("9999", slowed("9999"), 9);
        DUE.is("the most", slowed(MOST_INT), 9);
        StairLines x = Edges.stuck(2);
        Due.text(x, "slows " + MOST_INT + ";comes0;minds0;");
        x.force(1);
        DUE.is("0 less the most: nobody", x.on(9, 1), 2);
    }

    /** What it is to stand for 400 ticks, for one who is stuck. */
    private static int minded(String e) {
        StairLines x = Edges.stuck(1);
        DUE.is("[" + e + "]", Due.text(x, "slows0;comes0;minds " + e + ";"), 1);
        x.force(1);
        return x.run(2);
    }

    /** "minds: .. (0 .. 99, else the bound)". */
    private static void mindsIs0AtLeast() {
        DUE.is("0", minded("0"), 0);
        DUE.is("1", minded("1"), 400);
        DUE.is("-1", minded("-1"), 0);
        DUE.is("the least", minded(LEAST_INT), 0);
    }

    private static void mindsIs99AtMost() {
        DUE.is("98", minded("98"), 98 * 400);
        DUE.is("99", minded("99"), 99 * 400);
        DUE.is("100", minded("100"), 99 * 400);
        DUE.is("9999", minded("9999"), 99 * 400);
        DUE.is("the most", minded(MOST_INT), 99 * 400);
    }

    /** "ahead: how many are on the next one (0 behind STEP 9)". */
    private static void aheadBehindStep9Is0() {
        DUE.is("of comes on step 9", eOn("3+ahead", 9), 3);
        StairLines x = Edges.crowded(8, 4);
        x.step(9, 1, 9);
        x.come(6, 9, 16);
        x.tick();
        // nobody left the gate in tick 1, and six are on step 9
        Due.text(x, "slows 9*(0<ahead);comes 0;minds 10*(ahead=0);");
        x.force(1);
        x.step(8, 0, 9);
        DUE.is("slows on step 8 by none ahead, as they have left by then", x.on(8, 1), 0);
        DUE.is("slows on step 9: the six left, the four came", x.on(9, 1), 4);
        x.step(9, 1, 4);
        DUE.is("slows on step 8 by three ahead", x.on(8, 1), 4);
        DUE.is("slows on step 9: three left", x.on(9, 1), 3);
        x.force(0);
        Due.text(x, "slows 9*(cell<9)+7*(cell=9);comes 0;minds 10*(ahead=0)+ahead;");
        x.force(2);
        x.step(9, 0, 8);
        // one a tick leaves step 9: those on it have nobody ahead, the four on step 8 have 5, 4, .. 0
        int onLast = 10 * (5 + 4 + 3 + 2 + 1);
        int onOther = 4 * (5 + 4 + 3 + 2 + 1) + 4 * 10 * 395;
        DUE.is("minds", x.run(2), onLast + onOther);
    }

    /** "left: of comes how many of the CLASS are IN". */
    private static void leftOfComesIsOfOneClass() {
        StairLines x = new StairLines();
        Due.text(x, "slows 0;comes left-1;minds 0;");
        x.force(1);
        x.come(1, 0, 9);
        x.come(2, 2, 9);
        x.come(5, 4, 9);
        x.tick();
        DUE.is("of one", x.told(0, 9), 1);
        DUE.is("of two", x.told(1, 9), 1);
        DUE.is("of five", x.told(2, 9), 1);
        Due.ticks(x, 3);
        DUE.is("of five, one is in still", x.told(2, 9), 1);
        StairLines y = new StairLines();
        Due.text(y, "slows 0;comes 9*(left=60)+7*(left=51);minds 0;");
        y.force(1);
        y.step(0, 0, 9);
        y.come(60, 0, 9);
        for (int in : new int[] {51, 44, 44}) {
            y.tick();
            DUE.is("of those that are in still", y.told(0, 9), in);
        }
    }

    /** "else how many of all CLASSES". */
    private static void leftOfTheOthersIsOfAllClasses() {
        StairLines x = Edges.stuck(1);
        x.come(1, 0, 1991);
        x.come(60, 3, 1991);
        x.come(20, 4, 1991);
        Due.text(x, "slows 9*(left=82);comes 0;minds left;");
        x.force(1);
        x.step(9, 0, 1);
        DUE.is("81 are in, and one leaves", x.on(9, 1), 0);
        x.come(1, 5, 1991);
        DUE.is("82 are in, and nobody leaves", x.on(9, 1), 1);
        DUE.is("82 are in, as nobody comes", x.run(2), 82 * 400);
        StairLines y = Edges.stuck(1);
        y.come(1, 0, 1991);
        Due.text(y, "slows 0;comes 9;minds left;");
        y.force(1);
        // it is in behind the ticks 1 to 198
        DUE.is("none is in at last", y.run(2), 198);
    }

    /** "cell: the number of a STEP (of comes: FLOOR); many; tick: THE TICK; wide: WIDTH". */
    private static void namesAtTheirEnds() {
        DUE.is("cell of the first", eOn("cell", 0), 0);
        DUE.is("cell of the last", eOn("cell", 9), 9);
        DUE.is("wide of the widest", eOn("wide", 3), 9);
        DUE.is("many of none", eOn("many", 3), 0);
        DUE.is("tick at first", eOn("tick", 3), 0);
        DUE.is("left of all", eOn("left*(left=60)-51", 3), 9);
        StairLines x = new StairLines();
        Due.text(x, "slows 9;comes many;minds 0;");
        x.come(60, 9, 5);
        x.tick();
        x.step(9, 0, 9);
        x.force(1);
        int[] many = {10, 19, 28, 36, 36};
        x.set(1, 0, 9);
        for (int n = 0; n < many.length; n++) {
            DUE.is("as many more as are there", x.on(9, n + 1), many[n]);
        }
        StairLines y = new StairLines();
        y.step(9, 0, 1);
        Due.text(y, "slows 9;comes wide*(tick=199);minds 0;");
        y.force(1);
        y.come(60, 9, 1999);
        DUE.is("ahead of the last bell", y.on(9, 199), 0);
        DUE.is("wide of the narrowest at the last bell", y.on(9, 200), 1);
        DUE.is("behind the last bell", y.on(9, 400), 1);
    }

    /** "slows 7 < many". */
    private static void textZeroSlowsBehindSeven() {
        for (int n = 1; n <= 9; n++) {
            StairLines x = Edges.crowded(9, n);
            x.step(9, 0, n);
            DUE.is("of " + n, x.on(9, 1), n > 7 ? 1 : 0);
        }
    }

    /** "TEXT 0, at first THE RULE, is: .. comes 9 ; minds 1 ;". */
    private static void textZeroIsTheRuleAtFirst() {
        StairLines x = new StairLines();
        x.come(60, 3, 9);
        x.step(3, 0, 9);
        DUE.is("comes 9", x.on(3, 1), 9);
        DUE.is("minds 1", Edges.stuck(2).run(2), 800);
        DUE.is("the rule", x.count(7), 0);
    }
}
