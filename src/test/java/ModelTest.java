import java.util.Random;

/** Random runs of calls on the program and on the plain model: every answer must be the same. */
public final class ModelTest {
    private static final int RUNS = 250;
    private static final int CALLS = 120;
    private static final Due DUE = new Due();

    public static void main(String[] args) {
        int runs = args.length > 0 ? Integer.parseInt(args[0]) : RUNS;
        int first = args.length > 1 ? Integer.parseInt(args[1]) : 1;
        for (int seed = first; seed < first + runs; seed++) {
            new ModelTest(seed).play();
        }
        DUE.end();
    }

    private final int seed;
    private final Random random;
    private final StairLines x = new StairLines();
    private final PlainModel m = new PlainModel();

    private ModelTest(int seed) {
        this.seed = seed;
        this.random = new Random(seed);
    }

    private void play() {
        int style = random.nextInt(4);
        if (style != 0) {
            build();
        }
        for (int i = 0; i < CALLS; i++) {
            if (random.nextInt(40) == 0) {
                feedText();
            } else {
                call(1 + random.nextInt(27));
            }
        }
        for (int s = 0; s < 10; s++) {
            for (int what = 0; what < 5; what++) {
                same("told", x.told(s, what), m.told(s, what));
            }
        }
        for (int c = 0; c < 5; c++) {
            for (int what = 5; what < 10; what++) {
                same("told", x.told(c, what), m.told(c, what));
            }
        }
        for (int what = 0; what < 8; what++) {
            same("count", x.count(what), m.count(what));
        }
    }

    /** A stair of mixed kinds with a few classes, so that the answers are worth something. */
    private void build() {
        for (int s = 0; s < 10; s++) {
            if (random.nextInt(3) == 0) {
                int kind = random.nextInt(6);
                int width = 1 + random.nextInt(4);
                same("step", x.step(s, kind, width), m.step(s, kind, width));
            }
        }
        int classes = random.nextInt(5);
        int spread = 1 + random.nextInt(40);
        for (int c = 0; c < classes; c++) {
            int size = 1 + random.nextInt(25);
            int floor = random.nextInt(10);
            int what = 10 * random.nextInt(spread) + 1 + random.nextInt(9);
            same("come", x.come(size, floor, what), m.come(size, floor, what));
        }
        if (random.nextBoolean()) {
            feedText();
            same("force", x.force(1), m.force(1));
        }
    }

    private void same(String call, int got, int want) {
        DUE.is("seed " + seed + ": " + call, got, want);
    }

    private void feedText() {
        StringBuilder text = new StringBuilder();
        text.append("slows ").append(expression(3)).append(" ;\ncomes ");
        if (random.nextInt(3) > 0) text.append("9-");
        text.append(expression(2)).append(";minds ").append(expression(3)).append(';');
        if (random.nextInt(4) == 0) {
            int i = random.nextInt(text.length());
            String bytes = "();+-*<= \nax01\t@{" + (char) 200;
            text.setCharAt(i, bytes.charAt(random.nextInt(bytes.length())));
        }
        for (int i = 0; i < text.length(); i++) {
            same("feed", x.feed(text.charAt(i)), m.feed(text.charAt(i)));
        }
        same("text of " + text, x.text(), m.text());
    }

    private String expression(int depth) {
        String[] names = {"cell", "many", "tick", "ahead", "wide", "left"};
        int pick = depth == 0 ? random.nextInt(2) : random.nextInt(11);
        switch (pick) {
            case 0:
                return String.valueOf(random.nextInt(12));
            case 1:
            case 2:
                return names[random.nextInt(6)];
            case 3:
                return "not " + expression(depth - 1);
            case 4:
                return "(" + expression(depth - 1) + ")";
            case 5:
                return "-" + expression(depth - 1);
            default:
                String[] signs = {"+", "-", "*", "<", "=", " or ", " and "};
                return expression(depth - 1) + signs[random.nextInt(7)] + expression(depth - 1);
        }
    }

    /** Mostly a number from the range, at times one beside it, seldom one far out. */
    private int number(int least, int most) {
        int odds = random.nextInt(60);
        if (odds == 0) {
            int[] far = {Integer.MIN_VALUE, Integer.MAX_VALUE, -100, 10000, Integer.MAX_VALUE - 1};
            return far[random.nextInt(far.length)];
        }
        if (odds < 3) {
            return random.nextBoolean() ? least - 1 : most + 1;
        }
        return least + random.nextInt(most - least + 1);
    }

    private void call(int which) {
        int a;
        int b;
        int c;
        switch (which) {
            case 1:
                a = number(0, 9);
                b = number(0, 5);
                c = number(1, 9);
                same("step", x.step(a, b, c), m.step(a, b, c));
                break;
            case 2:
                if (random.nextInt(3) > 0) {
                    return;
                }
                a = number(1, 60);
                b = number(0, 9);
                c = 10 * number(0, 30) + number(1, 9);
                same("come", x.come(a, b, c), m.come(a, b, c));
                break;
            case 3:
                a = number(0, 2);
                b = number(0, 4);
                c = number(0, a == 0 ? 60 : 9);
                same("set", x.set(a, b, c), m.set(a, b, c));
                break;
            case 4:
                a = number(0, 9);
                b = number(0, 9);
                same("told", x.told(a, b), m.told(a, b));
                break;
            case 5:
                a = number(0, 255);
                if (random.nextInt(8) == 0) {
                    same("feed", x.feed(a), m.feed(a));
                }
                break;
            case 6:
                same("text", x.text(), m.text());
                break;
            case 7:
                a = number(0, 5);
                same("force", x.force(a), m.force(a));
                break;
            case 8:
                for (int n = random.nextInt(6); n >= 0; n--) {
                    same("tick", x.tick(), m.tick());
                }
                break;
            default:
                ask(which);
        }
    }

    private void ask(int which) {
        int a = number(0, 9);
        int b;
        switch (which) {
            case 9:
            case 10:
                a = number(0, 3);
                same("run " + a, x.run(a), m.run(a));
                break;
            case 11:
                b = number(0, random.nextBoolean() ? 40 : 400);
                same("on", x.on(a, b), m.on(a, b));
                break;
            case 12:
                same("holdsUp", x.holdsUp(), m.holdsUp());
                break;
            case 13:
                same("widen", x.widen(), m.widen());
                break;
            case 14:
                same("later", x.later(), m.later());
                break;
            case 15:
                a = number(0, 1);
                same("apart " + a, x.apart(a), m.apart(a));
                break;
            case 16:
                if (random.nextInt(3) == 0) {
                    a = number(-1, 4);
                    same("order " + a, x.order(a), m.order(a));
                }
                break;
            case 17:
                b = number(0, 100);
                same("shut", x.shut(a, b), m.shut(a, b));
                break;
            case 18:
                same("drill", x.drill(), m.drill());
                break;
            case 19:
                b = number(0, random.nextBoolean() ? 40 : 400);
                same("look", x.look(a, b), m.look(a, b));
                break;
            case 20:
                b = random.nextInt();
                same("drawn " + b, x.drawn(b), m.drawn(b));
                break;
            case 21:
                if (random.nextInt(4) == 0) {
                    same("image", x.image(), m.image());
                } else if (random.nextInt(2) == 0) {
                    same("back", x.back(), m.back());
                }
                break;
            case 22:
                same("count", x.count(a), m.count(a));
                break;
            case 23:
                b = number(0, 5);
                same("taken", x.taken(a, b), m.taken(a, b));
                break;
            default:
                sheets(which);
        }
    }

    private void sheets(int which) {
        int a = number(0, 3);
        int b = number(0, 2);
        int n = number(0, random.nextBoolean() ? 8 : 40);
        switch (which) {
            case 24:
                b = number(-1, 2);
                same("sheet", x.sheet(a, b, n), m.sheet(a, b, n));
                break;
            case 25:
                for (int i = 0; i < 12; i++) {
                    int v = random.nextInt(3) == 0 ? random.nextInt() : 1 + random.nextInt(random.nextBoolean() ? 9 : 300);
                    b = number(0, 11);
                    same("cell", x.cell(a, b, v), m.cell(a, b, v));
                }
                break;
            case 26:
                int i = number(0, 10);
                int j = number(0, 10);
                b = number(0, 3);
                n = number(0, 8);
                same("copy", x.copy(a, i, b, j, n), m.copy(a, i, b, j, n));
                break;
            default:
                int from = number(0, 12);
                n = number(0, 5);
                same("classes", x.classes(a, b, from, n), m.classes(a, b, from, n));
                judge(a);
        }
    }

    /** A sheet that tells the ticks truly up to some place. */
    private void judge(int sheet) {
        int step = random.nextInt(10);
        for (int i = 0; i < 12; i++) {
            int v = random.nextInt(15) == 0 ? 3 : m.on(step, i + 1);
            same("cell", x.cell(sheet, i, v), m.cell(sheet, i, v));
        }
        same("judge", x.judge(step, sheet), m.judge(step, sheet));
    }
}
