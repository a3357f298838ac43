/** "Terms": GAUGE, with promise 15's bounds; NewMonitorsTest has the rest of promise 15. */
public final class GaugesTest {
    private static final Due due = new Due();
    private static final int MIN = Integer.MIN_VALUE;
    private static final int MAX = Integer.MAX_VALUE;
    private static final int NO_NOTICE = -1;
    private static final int HIGH = 3;
    private static final int LOW = 4;

    public static void main(String[] args) {
        lowLessThanHigh();
        noSideAtFirst();
        highOrMore();
        lowOrLess();
        neighbours();
        againOnTheSameSide();
        between();
        errorsLeaveTheSide();
        due.end();
    }

    private static Desk withBean() {
        Desk desk = new Desk();
        desk.register("m:k=1");
        return desk;
    }

    private static Desk withGauge(int low, int high) {
        Desk desk = withBean();
        due.is("gauge " + low + " " + high, desk.gauge(0, 0, low, high), 0);
        return desk;
    }

    /** Lets the gauge observe v, and compares the kind of the notice that gave, and the side. */
    private static void observes(Desk desk, int v, int kind, int side) {
        desk.set(0, 0, v);
        due.is("observe " + v, desk.observe(), kind == NO_NOTICE ? 0 : 1);
        due.is("side after " + v, desk.mark(0), side);
        if (kind != NO_NOTICE) {
            due.is("kind of the notice of " + v, desk.notice(0, 1), kind);
            due.is("source of the notice of " + v, desk.notice(0, 2), 0);
            due.is("value of the notice of " + v, desk.notice(0, 3), v);
        }
    }

    private static void lowLessThanHigh() {
        due.by("LOW < HIGH; BAD: low isn't less than high");
        int[][] bad = {{0, 0}, {1, 0}, {0, -1}, {7, 7}, {MIN, MIN}, {MAX, MAX}, {MAX, MIN}, {MIN + 1, MIN}, {MAX, MAX - 1}};
        for (int[] bounds : bad) {
            due.is("gauge " + bounds[0] + " " + bounds[1], withBean().gauge(0, 0, bounds[0], bounds[1]), BeanServer.BAD);
        }
        int[][] right = {{0, 1}, {-1, 0}, {-1, 1}, {MIN, MAX}, {MIN, MIN + 1}, {MAX - 1, MAX}, {MIN, 0}, {0, MAX}};
        for (int[] bounds : right) {
            due.is("gauge " + bounds[0] + " " + bounds[1], withBean().gauge(0, 0, bounds[0], bounds[1]), 0);
        }
    }

    private static void noSideAtFirst() {
        due.by("a SIDE: none (at first)");
        due.is("side", withGauge(3, 8).mark(0), 0);
        observes(withGauge(3, 8), 5, NO_NOTICE, 0);
        observes(withGauge(3, 8), 8, HIGH, 1);
        observes(withGauge(3, 8), 3, LOW, -1);
    }

    private static void highOrMore() {
        due.by("if v is HIGH or more and the side isn't high: a notice HIGH, the side is high");
        observes(withGauge(3, 8), 7, NO_NOTICE, 0);
        observes(withGauge(3, 8), 8, HIGH, 1);
        observes(withGauge(3, 8), 9, HIGH, 1);
        observes(withGauge(3, 8), MAX, HIGH, 1);
        observes(withGauge(MIN, MAX), MAX - 1, NO_NOTICE, 0);
        observes(withGauge(MIN, MAX), MAX, HIGH, 1);
    }

    private static void lowOrLess() {
        due.by("Otherwise, if v is LOW or less and the side isn't low: a notice LOW, the side is low");
        observes(withGauge(3, 8), 4, NO_NOTICE, 0);
        observes(withGauge(3, 8), 3, LOW, -1);
        observes(withGauge(3, 8), 2, LOW, -1);
        observes(withGauge(3, 8), MIN, LOW, -1);
        observes(withGauge(MIN, MAX), MIN + 1, NO_NOTICE, 0);
        observes(withGauge(MIN, MAX), MIN, LOW, -1);
    }

    private static void neighbours() {
        due.by("LOW and HIGH (LOW < HIGH): with nothing between them");
        Desk desk = withGauge(3, 4);
        observes(desk, 3, LOW, -1);
        observes(desk, 4, HIGH, 1);
        observes(desk, 3, LOW, -1);
        observes(desk, 5, HIGH, 1);
        observes(desk, 2, LOW, -1);
    }

    private static void againOnTheSameSide() {
        due.by("and the side isn't high; and the side isn't low");
        Desk desk = withGauge(3, 8);
        observes(desk, 8, HIGH, 1);
        observes(desk, 8, NO_NOTICE, 1);
        observes(desk, MAX, NO_NOTICE, 1);
        observes(desk, 3, LOW, -1);
        observes(desk, 3, NO_NOTICE, -1);
        observes(desk, MIN, NO_NOTICE, -1);
        observes(desk, 8, HIGH, 1);
        due.is("three notices", desk.listen(63), 4);
    }

    private static void between() {
        due.by("the side is high; the side is low: until the other bound is met");
        Desk desk = withGauge(3, 8);
        observes(desk, 8, HIGH, 1);
        observes(desk, 7, NO_NOTICE, 1);
        observes(desk, 4, NO_NOTICE, 1);
        observes(desk, 8, NO_NOTICE, 1);
        observes(desk, 3, LOW, -1);
        observes(desk, 4, NO_NOTICE, -1);
        observes(desk, 7, NO_NOTICE, -1);
        observes(desk, 3, NO_NOTICE, -1);
        observes(desk, 8, HIGH, 1);
    }

    private static void errorsLeaveTheSide() {
        due.by("A monitor ERRS: nothing else of it changes");
        Desk desk = withGauge(3, 8);
        observes(desk, 8, HIGH, 1);
        desk.unset(0, 0);
        due.is("observe without the attribute", desk.observe(), 1);
        due.is("side", desk.mark(0), 1);
        observes(desk, 8, NO_NOTICE, 1);
        observes(desk, 3, LOW, -1);
        desk.unset(0, 0);
        due.is("observe without the attribute", desk.observe(), 1);
        due.is("side", desk.mark(0), -1);
        observes(desk, 3, NO_NOTICE, -1);
    }
}
