/** "Terms": COUNTER, with promise 14's step; NewMonitorsTest has the rest of promise 14. */
public final class CountersTest {
    private static final Due due = new Due();
    private static final int MIN = Integer.MIN_VALUE;
    private static final int MAX = Integer.MAX_VALUE;

    public static void main(String[] args) {
        steps();
        markIsStartAtFirst();
        readyAtFirst();
        reachedAtTheMark();
        withoutStep();
        nextMark();
        exactMarks();
        lessThanBefore();
        theFirstValueIsLessThanNone();
        beforeIsTheLatest();
        beforeOutlastsErrors();
        fallingBelowTheMark();
        due.end();
    }

    private static Desk withBean() {
        Desk desk = new Desk();
        desk.register("m:k=1");
        return desk;
    }

    private static Desk withCounter(int start, int step) {
        Desk desk = withBean();
        due.is("counter " + start + " " + step, desk.counter(0, 0, start, step), 0);
        return desk;
    }

    /** Lets the counter observe v, and compares whether that gave a notice, and the mark. */
    private static void observes(Desk desk, int v, boolean reached, long mark) {
        desk.set(0, 0, v);
        due.is("observe " + v, desk.observe(), reached ? 1 : 0);
        due.is("mark after " + v, desk.mark(0), mark);
        if (reached) {
            due.is("kind of the notice of " + v, desk.notice(0, 1), 2);
            due.is("source of the notice of " + v, desk.notice(0, 2), 0);
            due.is("value of the notice of " + v, desk.notice(0, 3), v);
        }
    }

    private static void errs(Desk desk) {
        desk.unset(0, 0);
        due.is("observe without the attribute", desk.observe(), 1);
    }

    private static void steps() {
        due.by("STEP (0 or more); BAD: step is below 0");
        int[] below = {-1, -2, MIN};
        for (int step : below) {
            due.is("step " + step, withBean().counter(0, 0, 0, step), BeanServer.BAD);
        }
        int[] right = {0, 1, 2, MAX};
        for (int step : right) {
            due.is("step " + step, withBean().counter(0, 0, 0, step), 0);
        }
        int[] starts = {MIN, -1, 0, 1, MAX};
        for (int start : starts) {
            due.is("start " + start, withBean().counter(0, 0, start, 0), 0);
        }
    }

    private static void markIsStartAtFirst() {
        due.by("a MARK (START at first)");
        int[] starts = {MIN, -1, 0, 1, MAX};
        for (int start : starts) {
            due.is("mark", withCounter(start, 0).mark(0), start);
            due.is("mark", withCounter(start, 5).mark(0), start);
        }
    }

    private static void readyAtFirst() {
        due.by("is READY (at first)");
        observes(withCounter(10, 0), 10, true, 10);
        observes(withCounter(10, 4), 10, true, 14);
        observes(withCounter(MIN, 0), MIN, true, MIN);
    }

    private static void reachedAtTheMark() {
        due.by("if it is READY and v is MARK or more: a notice REACHED");
        observes(withCounter(10, 4), 9, false, 10);
        observes(withCounter(10, 4), 10, true, 14);
        observes(withCounter(10, 4), 11, true, 14);
        observes(withCounter(MAX, 4), MAX - 1, false, MAX);
        observes(withCounter(MAX, 0), MAX, true, MAX);
        Desk desk = withCounter(10, 4);
        observes(desk, 10, true, 14);
        observes(desk, 13, false, 14);
        observes(desk, 14, true, 18);
        observes(desk, 17, false, 18);
        observes(desk, 19, true, 22);
        due.is("three notices", desk.listen(63), 4);
    }

    private static void withoutStep() {
        due.by("if STEP is 0, it isn't READY any more");
        Desk desk = withCounter(10, 0);
        observes(desk, 9, false, 10);
        observes(desk, 10, true, 10);
        observes(desk, 10, false, 10);
        observes(desk, 11, false, 10);
        observes(desk, MAX, false, 10);
        Desk one = withCounter(10, 1);
        observes(one, 10, true, 11);
        observes(one, 10, false, 11);
        observes(one, 11, true, 12);
    }

    private static void nextMark() {
        due.by("MARK becomes the least of START, START + STEP, START + 2 STEP, .. that is greater than v");
        int[][] vAndMark = {{10, 14}, {11, 14}, {13, 14}, {14, 18}, {15, 18}, {17, 18}, {18, 22}, {409, 410}, {410, 414}};
        for (int[] each : vAndMark) {
            observes(withCounter(10, 4), each[0], true, each[1]);
        }
        int[][] fromBelowZero = {{-7, -4}, {-5, -4}, {-4, -1}, {-2, -1}, {-1, 2}, {0, 2}, {1, 2}, {2, 5}};
        for (int[] each : fromBelowZero) {
            observes(withCounter(-7, 3), each[0], true, each[1]);
        }
        Desk desk = withCounter(0, 1);
        for (int v = 0; v < 20; v++) {
            observes(desk, v, true, v + 1);
        }
    }

    private static void exactMarks() {
        due.by("(exactly, whatever its size)");
        observes(withCounter(MAX, 1), MAX, true, 2147483648L);
        observes(withCounter(MAX, MAX), MAX, true, 4294967294L);
        observes(withCounter(MIN, 1), MAX, true, 2147483648L);
        observes(withCounter(MIN, 1), MIN, true, -2147483647L);
        observes(withCounter(MIN, MAX), MIN, true, -1);
        observes(withCounter(MIN, MAX), -1, true, 2147483646L);
        observes(withCounter(MIN, MAX), 2147483645, true, 2147483646L);
        observes(withCounter(MIN, MAX), 2147483646, true, 4294967293L);
        observes(withCounter(MIN, MAX), MAX, true, 4294967293L);
        observes(withCounter(MIN, 3), MAX - 1, true, 2147483647L);
        observes(withCounter(MIN, 3), MAX, true, 2147483650L);
        observes(withCounter(0, MAX), MAX - 1, true, 2147483647L);
        observes(withCounter(0, MAX), MAX, true, 4294967294L);
        Desk desk = withCounter(MAX, MAX);
        observes(desk, MAX, true, 4294967294L);
        observes(desk, MAX, false, 4294967294L);
        observes(desk, MIN, false, MAX);
        observes(desk, MAX, true, 4294967294L);
    }

    private static void lessThanBefore() {
        due.by("if it has observed a value before and v is less than that, MARK becomes START, and it is READY");
        Desk desk = withCounter(10, 4);
        observes(desk, 30, true, 34);
        observes(desk, 30, false, 34);
        observes(desk, 29, true, 30);
        observes(desk, 10, true, 14);
        observes(desk, 9, false, 10);
        observes(desk, 8, false, 10);
        observes(desk, MIN, false, 10);
        observes(desk, 10, true, 14);
        Desk without = withCounter(10, 0);
        observes(without, 20, true, 10);
        observes(without, 20, false, 10);
        observes(without, 19, true, 10);
        observes(without, 19, false, 10);
        observes(without, 9, false, 10);
        observes(without, 10, true, 10);
    }

    private static void theFirstValueIsLessThanNone() {
        due.by("if it has observed a value before");
        observes(withCounter(-10, 4), -10, true, -6);
        observes(withCounter(-10, 4), -11, false, -10);
        Desk desk = withCounter(-10, 0);
        observes(desk, -5, true, -10);
        observes(desk, -5, false, -10);
        observes(desk, -4, false, -10);
    }

    private static void beforeIsTheLatest() {
        due.by("observed a value before (the latest time)");
        Desk desk = withCounter(10, 100);
        observes(desk, 50, true, 110);
        observes(desk, 60, false, 110);
        observes(desk, 55, true, 110);
        observes(desk, 57, false, 110);
        observes(desk, 57, false, 110);
        observes(desk, 56, true, 110);
    }

    private static void beforeOutlastsErrors() {
        due.by("(the latest time that it didn't err)");
        Desk desk = withCounter(10, 100);
        observes(desk, 50, true, 110);
        errs(desk);
        due.is("mark", desk.mark(0), 110);
        observes(desk, 50, false, 110);
        errs(desk);
        observes(desk, 51, false, 110);
        errs(desk);
        observes(desk, 50, true, 110);
        Desk without = withCounter(10, 0);
        observes(without, 50, true, 10);
        errs(without);
        observes(without, 50, false, 10);
        errs(without);
        observes(without, 49, true, 10);
        Desk fresh = withCounter(-10, 0);
        errs(fresh);
        observes(fresh, -10, true, -10);
    }

    private static void fallingBelowTheMark() {
        due.by("if it isn't READY and v is less than MARK, it is READY");
        Desk desk = withCounter(10, 0);
        observes(desk, 10, true, 10);
        observes(desk, 9, false, 10);
        observes(desk, 10, true, 10);
        errs(desk);
        observes(desk, 9, false, 10);
        observes(desk, 11, true, 10);
    }
}
