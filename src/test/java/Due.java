/** Counts the answers of a test that are not as due. */
final class Due {
    private int wrong = 0;
    private int asked = 0;

    void is(String call, long got, long want) {
        asked++;
        if (got != want) {
            wrong++;
            System.out.println(call + " answered " + got + ", due is " + want);
        }
    }

    void holds(String what, boolean holds) {
        is(what, holds ? 1 : 0, 1);
    }

    static void feed(StairLines x, String tape) {
        for (int i = 0; i < tape.length(); i++) {
            x.feed(tape.charAt(i));
        }
    }

    /** Feeds a text and answers what text() answers. */
    static int text(StairLines x, String tape) {
        feed(x, tape);
        return x.text();
    }

    static void ticks(StairLines x, int n) {
        for (int i = 0; i < n; i++) {
            x.tick();
        }
    }

    /** A sheet of ints that holds these. */
    static void row(StairLines x, int sheet, int... cells) {
        x.sheet(sheet, 2, cells.length);
        for (int i = 0; i < cells.length; i++) {
            x.cell(sheet, i, cells[i]);
        }
    }

    /** All that can be told of the stair and its first two classes. */
    static int[] state(StairLines x) {
        int[] state = new int[68];
        int n = 0;
        for (int what = 0; what < 8; what++) {
            state[n++] = x.count(what);
        }
        for (int s = 0; s < 10; s++) {
            for (int what = 0; what < 5; what++) {
                state[n++] = x.told(s, what);
            }
        }
        for (int c = 0; c < 2; c++) {
            for (int what = 5; what < 10; what++) {
                state[n++] = x.told(c, what);
            }
        }
        return state;
    }

    void end() {
        System.out.println(asked + " answers, " + wrong + " not as due");
        if (wrong != 0) {
            System.exit(1);
        }
    }
}
