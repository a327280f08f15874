/** Promises 6 to 8: feed, text, force; and what a text says. */
public final class TextsTest {
    private static final Due DUE = new Due();
    private static final String PLAIN = "slows 1;comes 2;minds 3;";

    public static void main(String[] args) {
        DUE.promise(6);
        feed();
        DUE.promise(7);
        faults();
        openOnes();
        textsAreFull();
        tapeIsEmptyThen();
        DUE.promise(8);
        force();
        DUE.promise(7, 9);
        values();
        names();
        bounds();
        textZero();
        DUE.end();
    }

    private static void feed() {
        StairLines x = new StairLines();
        DUE.is("feed -1", x.feed(-1), StairLines.BAD);
        DUE.is("feed 256", x.feed(256), StairLines.BAD);
        DUE.is("feed least", x.feed(0), 1);
        DUE.is("feed most", x.feed(255), 2);
        for (int n = 3; n <= 160; n++) {
            DUE.is("feed", x.feed(32), n);
        }
        DUE.is("full", x.feed(32), StairLines.FULL);
        DUE.is("bad ahead of full", x.feed(256), StairLines.BAD);
        DUE.is("tape", x.count(6), 160);
        DUE.is("fault at the first", x.text(), -100);
        DUE.is("tape then", x.count(6), 0);
        DUE.is("feed again", x.feed(32), 1);
    }

    private static void fault(String tape, int place) {
        StairLines x = new StairLines();
        DUE.is("[" + tape + "]", Due.text(x, tape), -100 - place);
        DUE.is("no text by a fault", x.count(5), 1);
        DUE.is("no tape by a fault", x.count(6), 0);
    }

    private static void good(String tape) {
        DUE.is("[" + tape + "]", Due.text(new StairLines(), tape), 1);
    }

    private static void faults() {
        good(PLAIN + " ".repeat(160 - PLAIN.length()));
        good("slows " + "1+".repeat(67) + "1;comes2;minds3;");
        fault(" ".repeat(160), 160);
        good(PLAIN);
        good(" \n" + PLAIN + " \n ");
        good("slows1;comes2;minds3;");
        good("slows 1 or 2 and not 3 ; comes 9999 ; minds 0000 ;");
        good("slows 1<2 or 3=4;comes-many;minds many*0;");
        fault("", 0);
        fault("   ", 3);
        fault("slows", 5);
        fault("slows ", 6);
        fault("slows 1", 7);
        fault("slows 1 \n", 9);
        fault("slows 1;comes 2;minds 3", 23);
        fault("slows 1;comes 2;minds 3;;", 24);
        fault("slows 1;comes 2;minds 3; slows", 25);
        fault("slows 1;minds 2;comes 3;", 8);
        fault("comes 1;", 0);
        fault(" Slows 1;", 1);
        fault("slow 1;", 0);
        fault("slowss 1;", 0);
        fault("slows ;", 6);
        fault("slows 1 2;", 8);
        fault("slows 1 many;", 8);
        fault("slows 7many;", 7);
        fault("slows manymany;", 6);
        fault("slows tickx;", 6);
        fault("slows notmany;", 6);
        fault("slows 10000;", 6);
        fault("slows 00000;", 6);
        fault("slows 1 + 12345678901234567890;", 10);
        fault("slows 1<2<3;", 9);
        fault("slows 1=2=3;", 9);
        fault("slows 1 < = 3;", 10);
        fault("slows not 1<2=3;", 13);
        fault("slows 1 = not 1;", 10);
        fault("slows 1 + not 1;", 10);
        fault("slows - not 1;", 8);
        fault("slows 1 or;", 10);
        fault("slows or 1;", 6);
        fault("slows and;", 6);
        fault("slows 1 and or 1;", 12);
        fault("slows slows;", 6);
        fault("slows * 1;", 6);
        fault("slows + 1;", 6);
        fault("slows 1 ** 1;", 9);
        fault("slows (1;", 8);
        fault("slows (1", 8);
        fault("slows 1);", 7);
        fault("slows ();", 7);
        fault("slows (1))", 9);
        fault("slows 1\t;", 7);
        fault("slows 1\r;", 7);
        fault("slows 1 & 2;", 8);
        fault("slows 1 / 2;", 8);
        fault("slows 1 > 2;", 8);
        fault("slows 1 " + (char) 228 + ";", 8);
        fault("slows 1 " + (char) 0 + ";", 8);
        fault("slows M;", 6);
        fault("tlows 1;", 0);
        fault("slows xany;", 6);
        fault("slows manz;", 6);
        fault("slows man;", 6);
        fault("slows o;", 6);
        fault("slows 1_;", 7);
    }

    private static void openOnes() {
        good("slows not not not not not 1;comes 2;minds 3;");
        fault("slows not not not not not not 1;comes 2;minds 3;", 26);
        good("slows -----1;comes 2;minds 3;");
        fault("slows ------1;comes 2;minds 3;", 11);
        good("slows (((((1)))));comes 2;minds 3;");
        fault("slows ((((((1))))));comes 2;minds 3;", 11);
        good("slows (not(-(1)));comes 2;minds 3;");
        fault("slows (not(-(-1)));comes 2;minds 3;", 13);
        fault("slows (((((-1)))));comes 2;minds 3;", 11);
        fault("slows (((((not 1)))));comes 2;minds 3;", 11);
        good("slows (((((1-1)))));comes 2;minds 3;");
        good("slows (1)*(1)*(1)*(1)*(1)*(1)*(1);comes 2;minds 3;");
        good("slows -1*-1*-1*-1*-1*-1-1-1-1-1-1-1;comes 2;minds 3;");
        good("slows not 1 and not 1 and not 1 or not 1 or not 1 or not 1;comes 2;minds 3;");
        good("slows ((((1))))*((((-1))));comes ((((-1))));minds not not not not not 3;");
        // a not is open till its comparison ends, so both of its sides are inside it
        fault("slows not not not not 0=(1)*((1));comes 2;minds 3;", 29);
        good("slows not not not not 0=(1)*(1);comes 2;minds 3;");
        // a - is open till its ONE ends, not its TERM
        good("slows -----1*(-1);comes 2;minds 3;");
    }

    private static void textsAreFull() {
        StairLines x = new StairLines();
        for (int n = 1; n <= 5; n++) {
            DUE.is("text " + n, Due.text(x, PLAIN), n);
            DUE.is("texts", x.count(5), n + 1);
        }
        Due.feed(x, PLAIN);
        DUE.is("full", x.text(), StairLines.FULL);
        DUE.is("the tape stays", x.count(6), PLAIN.length());
        DUE.is("full again", x.text(), StairLines.FULL);
        DUE.is("force the last", x.force(5), 0);
        DUE.is("force none such", x.force(6), StairLines.BAD);
    }

    private static void tapeIsEmptyThen() {
        StairLines x = new StairLines();
        DUE.is("a fault", Due.text(x, "slows"), -105);
        DUE.is("behind a fault", Due.text(x, PLAIN), 1);
        DUE.is("empty", x.text(), -100);
        DUE.is("next number", Due.text(x, PLAIN), 2);
        // nothing of a text that had a fault stays in the next one
        x.force(2);
        x.come(9, 9, 9);
        x.tick();
        DUE.is("comes 2", x.told(9, 4), 2);
        x.tick();
        DUE.is("slows 1", x.told(9, 4), 3);
        DUE.is("a fault far behind", Due.text(x, "slows 9;comes 9;minds 9*(;"), -125);
        DUE.is("next number", Due.text(x, "slows 2;comes 4;minds 7;"), 3);
        x.force(3);
        DUE.is("comes 4, slows 2", x.on(9, 1), 7);
        x.set(0, 0, 199);
        DUE.is("minds 7", x.run(2), 7 * x.run(1));
    }

    private static void force() {
        StairLines x = new StairLines();
        DUE.is("force -1", x.force(-1), StairLines.BAD);
        DUE.is("force 1 of one", x.force(1), StairLines.BAD);
        DUE.is("force most", x.force(Integer.MAX_VALUE), StairLines.BAD);
        DUE.is("force 0", x.force(0), 0);
        Due.text(x, "slows 0;comes 1;minds 0;");
        DUE.is("a text is no rule by itself", x.count(7), 0);
        DUE.is("force 1", x.force(1), 0);
        DUE.is("rule", x.count(7), 1);
        x.come(9, 0, 9);
        x.tick();
        DUE.is("one comes by text 1", x.told(0, 4), 1);
        DUE.is("force 0 again", x.force(0), 1);
        x.tick();
        DUE.is("the others by text 0", x.told(0, 9), 0);
    }

    /** What comes is, 0 to 9, told by how many of a great class step on a wide floor. */
    private static int valueOf(String e, int floor) {
        StairLines x = new StairLines();
        if (Due.text(x, "slows 0;comes " + e + ";minds 0;") != 1) {
            return -100;
        }
        x.force(1);
        x.step(floor, 0, 9);
        x.come(60, floor, 9);
        x.tick();
        return x.told(floor, 4);
    }

    private static void value(String e, int due) {
        DUE.is("[" + e + "]", valueOf(e, 0), due);
    }

    private static void values() {
        value("7", 7);
        value("0007", 7);
        value("2+3*2", 8);
        value("2*3+2", 8);
        value("9-3-2", 4);
        value("9-(3-2)", 8);
        value("(1+2)*3", 9);
        value("2*2*2", 8);
        value("-1+5", 4);
        value("--3", 3);
        value("5--3", 8);
        value("-2*-3", 6);
        value("5-3", 2);
        value("not 0", 1);
        value("not 5", 0);
        value("not not 5", 1);
        value("not -1", 0);
        value("1 or 0", 1);
        value("5 or 0", 1);
        value("0 or 0", 0);
        value("0 or 0 or -1", 1);
        value("1 and 1", 1);
        value("5 and 3", 1);
        value("5 and 0", 0);
        value("4 and 2", 1);
        value("1 and 1 and 0", 0);
        value("2 or 0 and 0", 1);
        value("0 and 0 or 2", 1);
        value("3<4", 1);
        value("4<4", 0);
        value("5<4", 0);
        value("-5<-4", 1);
        value("4=4", 1);
        value("4=5", 0);
        value("not 3<4", 0);
        value("not 3=0", 1);
        value("1+1<3", 1);
        value("3<1+3", 1);
        value("3*(2<3)+4*(3<2)", 3);
        value("not 0 and 0", 0);
        value("6 + (1 or 0) + (not 0)", 8);
        value("9999*9999*9999<0", 1);
        value("2048*2048*1024=0", 1);
        value("2048*2048*512-1<0", 0);
        value("2048*2048*512<0", 1);
        value("\n 4\n+ 4 ", 8);
        // as much as can wait for its right side at once
        String waiting = "0 or 1 and 1=0+1*(".repeat(5);
        value(waiting + "1" + ")))))", 1);
        value(waiting + "0" + ")))))", 0);
        value("1" + "+1".repeat(67), 9);
        value("8-" + "8-".repeat(60) + "0+8*60", 8);
    }

    private static void names() {
        DUE.is("cell of comes", valueOf("cell", 7), 7);
        DUE.is("wide of comes", valueOf("wide-2", 3), 7);
        DUE.is("many of comes", valueOf("5+many", 3), 5);
        DUE.is("tick of comes", valueOf("5+tick", 3), 5);
        DUE.is("left of comes", valueOf("left-53", 3), 7);
        DUE.is("ahead of comes behind 9", valueOf("4+ahead", 9), 4);

        StairLines x = new StairLines();
        Due.text(x, "slows 0;comes (many+1)*(cell=0)+(ahead+1)*(cell=1)+(left-4)*(cell=3)+tick*(cell=5);minds 0;");
        x.force(1);
        x.come(9, 0, 9);
        x.come(9, 0, 9);
        x.come(9, 3, 9);
        x.come(9, 5, 9);
        x.come(9, 1, 9);
        x.tick();
        DUE.is("by many: the first one, then two", x.told(0, 4), 3);
        DUE.is("by left", x.told(3, 4), 5);
        DUE.is("by tick 0", x.told(5, 4), 0);
        DUE.is("by ahead, none", x.told(1, 4), 1);
        x.tick();
        DUE.is("by tick 1", x.told(3, 9) * 10 + x.told(5, 4), 81);
        // one has gone from 1 to 2, two have come from 0, ahead is 1
        DUE.is("by ahead, one", x.told(4, 9), 6);

        StairLines y = new StairLines();
        Due.text(y, "slows (cell=4)*(ahead=1)+(cell=3)*(left=3)+(cell=2)*(tick=1);comes 9;minds 0;");
        y.force(1);
        y.come(2, 4, 2);
        y.come(2, 3, 2);
        y.come(2, 2, 2);
        y.come(3, 0, 1003);
        y.tick();
        y.tick();
        DUE.is("step 4 was not slowed: none ahead", y.told(5, 4), 2);
        DUE.is("step 3 was slowed: three are left", y.told(4, 4), 1);
        DUE.is("step 2 was slowed in tick 1", y.told(3, 4), 2);
        DUE.is("one stood on 2", y.told(2, 4), 1);

        StairLines z = new StairLines();
        Due.text(z, "slows 9*(0<ahead);comes 9;minds 0;");
        z.force(1);
        z.come(2, 4, 2);
        z.come(2, 5, 2);
        z.tick();
        z.tick();
        DUE.is("step 4 sees that step 5 is left by then", z.told(5, 4), 2);

        StairLines v = new StairLines();
        Due.text(v, "slows 9*(0<ahead);comes 9;minds 0;");
        v.force(1);
        v.come(3, 9, 3);
        v.come(1, 8, 1);
        v.tick();
        v.tick();
        DUE.is("step 8 sees who is on step 9", v.told(8, 4), 1);
        DUE.is("step 9 sees nobody", v.count(2), 2);
    }

    private static void bounds() {
        DUE.is("comes below 0", valueOf("0-5", 0), 0);
        DUE.is("comes above 9", valueOf("5000", 0), 9);
        StairLines x = new StairLines();
        Due.text(x, "slows 0-5;comes 9;minds 0-5;");
        Due.text(x, "slows 5000;comes 9;minds 5000;");
        x.come(5, 9, 5);
        x.tick();
        x.force(1);
        DUE.is("slows below 0: two leave", x.on(9, 1), 3);
        DUE.is("minds below 0", x.run(2), 0);
        x.force(2);
        DUE.is("slows above 9: nobody leaves", x.on(9, 1), 5);
        DUE.is("minds above 99: five for 400 ticks", x.run(2), 5 * 400 * 99);
        x.step(9, 0, 9);
        DUE.is("slows 9 stops the widest", x.on(9, 1), 5);
        StairLines y = new StairLines();
        Due.text(y, "slows 2;comes 9;minds 0;");
        y.come(1, 9, 1);
        y.tick();
        y.force(1);
        DUE.is("a single one is slowed", y.on(9, 1), 1);
    }

    private static void textZero() {
        StairLines x = new StairLines();
        x.come(8, 9, 8);
        x.tick();
        DUE.is("eight", x.told(9, 4), 8);
        x.tick();
        DUE.is("slowed: 7 is less than 8", x.told(9, 4), 7);
        x.tick();
        DUE.is("not slowed", x.told(9, 4), 5);
        DUE.is("minds 1 for each", x.run(2), x.run(1));
    }
}
