import java.lang.management.ManagementFactory;

/** No call throws, whatever it is given, and none makes anything: all rows are made with the object. */
public final class RoomTest {
    private static final Due DUE = new Due();
    private static final int[] ODD = {Integer.MIN_VALUE, -101, -2, -1, 0, 1, 2, 3, 5, 9, 10, 40, 41, 100, 199, 400, 401, 2000,
        Integer.MAX_VALUE - 2, Integer.MAX_VALUE};

    public static void main(String[] args) {
        oddNumbers();
        allCallsMakeNothing();
        DUE.end();
    }

    private static StairLines busy() {
        StairLines x = new StairLines();
        x.step(4, 1, 1);
        x.step(6, 3, 1);
        x.step(8, 4, 2);
        x.step(9, 5, 2);
        Due.text(x, "slows many<ahead*2 or not tick=(left-3);comes 9-many;minds --many*wide+cell;");
        x.force(1);
        x.come(20, 0, 13);
        x.come(20, 4, 29);
        x.sheet(0, 0, 40);
        x.sheet(1, 1, 9);
        x.sheet(2, 2, 0);
        return x;
    }

    private static void oddNumbers() {
        StairLines x = busy();
        int n = 0;
        for (int a : ODD) {
            for (int b : ODD) {
                for (int c : ODD) {
                    x.step(a, b, c);
                    x.come(a, b, c);
                    x.set(a, b, c);
                    x.sheet(a, b, c);
                    x.cell(a, b, c);
                    x.classes(a, 1, b, c);
                    x.copy(a, b, a, c, b);
                    x.copy(1, a, 1, b, c);
                    n++;
                }
                x.told(a, b);
                x.on(a, b);
                x.shut(a, b);
                x.judge(a, b);
                x.look(a, b);
                x.taken(a, b);
            }
            x.feed(a);
            x.force(a);
            x.run(a);
            x.apart(a);
            x.order(a);
            x.drawn(a);
            x.count(a);
        }
        DUE.is("all went well", n, ODD.length * ODD.length * ODD.length);
    }

    private static void round(StairLines x) {
        x.feed(115);
        x.text();
        x.force(1);
        x.tick();
        for (int what = 0; what < 4; what++) {
            x.run(what);
            x.sheet(what, what % 3, 40);
            x.cell(what, 3, 7);
        }
        x.on(4, 30);
        x.holdsUp();
        x.widen();
        x.later();
        x.apart(0);
        x.apart(1);
        x.order(-1);
        x.order(0);
        x.shut(3, 9);
        x.drill();
        x.judge(3, 0);
        x.look(3, 400);
        x.drawn(7);
        x.image();
        x.classes(0, 0, 0, 5);
        x.copy(0, 0, 3, 4, 5);
        x.back();
        x.taken(3, 0);
        for (int what = 0; what < 8; what++) {
            x.count(what);
        }
    }

    private static void allCallsMakeNothing() {
        com.sun.management.ThreadMXBean threads = (com.sun.management.ThreadMXBean) ManagementFactory.getThreadMXBean();
        long self = Thread.currentThread().getId();
        StairLines x = busy();
        round(x);
        threads.getThreadAllocatedBytes(self);
        long before = threads.getThreadAllocatedBytes(self);
        for (int i = 0; i < 5; i++) {
            round(x);
        }
        long made = threads.getThreadAllocatedBytes(self) - before;
        DUE.holds("made " + made + " bytes in five rounds", made < 4096);
    }
}
