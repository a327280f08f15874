/** Counts the answers of a test that are not as due, and tells of which promises they are. */
final class Due {
    private int wrong = 0;
    private int asked = 0;
    private int askedAhead = 0;
    private String named = "";

    /** What is asked from now on is of these promises. */
    void promise(int... numbers) {
        nameAsked();
        StringBuilder name = new StringBuilder(numbers.length == 1 ? "promise" : "promises");
        for (int i = 0; i < numbers.length; i++) {
            name.append(i == 0 ? " " : ", ").append(numbers[i]);
        }
        named = name.append(": ").toString();
        askedAhead = asked;
    }

    /** A name without an answer behind it would tell of a test that there is not. */
    private void nameAsked() {
        if (!named.isEmpty() && asked == askedAhead) {
            wrong++;
            System.out.println(named + "nothing was asked");
        }
    }

    void is(String call, long got, long want) {
        asked++;
        if (got != want) {
            wrong++;
            System.out.println(named + call + " answered " + got + ", due is " + want);
        }
    }

    void holds(String what, boolean holds) {
        is(what, holds ? 1 : 0, 1);
    }

    static void feed(StairLines x, String tape) {
        for (int i = 0; i < tape.length(); i++) {
            x.feed(tape.charAt(i));
        }
    }

    /** Feeds a text and answers what text() answers. */
    static int text(StairLines x, String tape) {
        feed(x, tape);
        return x.text();
    }

    static void ticks(StairLines x, int n) {
        for (int i = 0; i < n; i++) {
            x.tick();
        }
    }

    /** A sheet of ints that holds these. */
    static void row(StairLines x, int sheet, int... cells) {
        x.sheet(sheet, 2, cells.length);
        for (int i = 0; i < cells.length; i++) {
            x.cell(sheet, i, cells[i]);
        }
    }

    /** All that can be told of the stair and its first two classes. */
    static int[] state(StairLines x) {
        int[] state = new int[68];
        int n = 0;
        for (int what = 0; what < 8; what++) {
            state[n++] = x.count(what);
        }
        for (int s = 0; s < 10; s++) {
            for (int what = 0; what < 5; what++) {
                state[n++] = x.told(s, what);
            }
        }
        for (int c = 0; c < 2; c++) {
            for (int what = 5; what < 10; what++) {
                state[n++] = x.told(c, what);
            }
        }
        return state;
    }

    void end() {
        nameAsked();
        System.out.println(asked + " answers, " + wrong + " not as due");
        if (wrong != 0) {
            System.exit(1);
        }
    }
}
