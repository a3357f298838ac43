/** Promises 14 to 18: counter, gauge, cancel, observe, mark. */
public final class MonitorsTest {
    private static final Due due = new Due();

    public static void main(String[] args) {
        counterRefuses();
        gaugeRefuses();
        monitorsGetTheLowestFreeNumber();
        cancelTakesMonitorsAway();
        counterWithSteps();
        counterWithoutStep();
        counterThatFalls();
        counterAfterErrors();
        counterMarksAreExact();
        gaugeSides();
        gaugeAtItsBounds();
        errors();
        monitorsGoByName();
        observeGoesByNumber();
        markOfNone();
        due.end();
    }

    private static Desk withBean() {
        Desk desk = new Desk();
        desk.register("m:k=1");
        return desk;
    }

    /** Sets attribute a of bean 0, lets the monitors observe, and compares how many notices that gave. */
    private static void observes(Desk desk, int v, int notices) {
        desk.server.set(0, 0, v);
        due.is("observe " + v, desk.server.observe(), notices);
    }

    private static void observes(Desk desk, int v, int notices, long mark) {
        observes(desk, v, notices);
        due.is("mark after " + v, desk.server.mark(0), mark);
    }

    private static void counterRefuses() {
        Desk desk = withBean();
        due.is("attribute -1", desk.server.counter(0, -1, 0, 1), BeanServer.BAD);
        due.is("attribute 5", desk.server.counter(0, 5, 0, 1), BeanServer.BAD);
        due.is("step -1", desk.server.counter(0, 0, 0, -1), BeanServer.BAD);
        due.is("least step", desk.server.counter(0, 0, 0, Integer.MIN_VALUE), BeanServer.BAD);
        due.is("no bean", desk.server.counter(1, 0, 0, 1), BeanServer.NONE);
        due.is("bean -1", desk.server.counter(-1, 0, 0, 1), BeanServer.NONE);
        due.is("bean 12", desk.server.counter(12, 0, 0, 1), BeanServer.NONE);
        due.is("BAD before NONE", desk.server.counter(1, 5, 0, 1), BeanServer.BAD);
        due.is("BAD before NONE", desk.server.counter(1, 0, 0, -1), BeanServer.BAD);
        for (int i = 0; i < 6; i++) {
            due.is("counter " + i, desk.server.counter(0, i % 5, -5, 0), i);
        }
        due.is("the 7th", desk.server.counter(0, 0, 0, 0), BeanServer.FULL);
        due.is("BAD before FULL", desk.server.counter(0, 5, 0, 0), BeanServer.BAD);
        due.is("NONE before FULL", desk.server.counter(1, 0, 0, 0), BeanServer.NONE);
        due.is("a 7th gauge", desk.server.gauge(0, 0, 0, 1), BeanServer.FULL);
        due.is("no notices of these", desk.server.listen(63), 1);
    }

    private static void gaugeRefuses() {
        Desk desk = withBean();
        due.is("attribute -1", desk.server.gauge(0, -1, 0, 1), BeanServer.BAD);
        due.is("attribute 5", desk.server.gauge(0, 5, 0, 1), BeanServer.BAD);
        due.is("low is high", desk.server.gauge(0, 0, 1, 1), BeanServer.BAD);
        due.is("low above high", desk.server.gauge(0, 0, 2, 1), BeanServer.BAD);
        due.is("far above", desk.server.gauge(0, 0, Integer.MAX_VALUE, Integer.MIN_VALUE), BeanServer.BAD);
        due.is("no bean", desk.server.gauge(1, 0, 0, 1), BeanServer.NONE);
        due.is("bean -1", desk.server.gauge(-1, 0, 0, 1), BeanServer.NONE);
        due.is("bean 12", desk.server.gauge(12, 0, 0, 1), BeanServer.NONE);
        due.is("BAD before NONE", desk.server.gauge(1, 5, 0, 1), BeanServer.BAD);
        due.is("BAD before NONE", desk.server.gauge(1, 0, 1, 1), BeanServer.BAD);
        for (int i = 0; i < 6; i++) {
            due.is("gauge " + i, desk.server.gauge(0, i % 5, Integer.MIN_VALUE, Integer.MAX_VALUE), i);
        }
        due.is("the 7th", desk.server.gauge(0, 0, 0, 1), BeanServer.FULL);
        due.is("BAD before FULL", desk.server.gauge(0, 0, 1, 0), BeanServer.BAD);
        due.is("NONE before FULL", desk.server.gauge(1, 0, 0, 1), BeanServer.NONE);
        due.is("a 7th counter", desk.server.counter(0, 0, 0, 1), BeanServer.FULL);
    }

    private static void monitorsGetTheLowestFreeNumber() {
        Desk desk = withBean();
        desk.server.counter(0, 0, 0, 0);
        desk.server.gauge(0, 0, 0, 1);
        desk.server.counter(0, 0, 0, 0);
        desk.server.cancel(1);
        desk.server.cancel(0);
        due.is("lowest", desk.server.gauge(0, 0, 0, 1), 0);
        due.is("next", desk.server.counter(0, 0, 0, 0), 1);
        due.is("then a new one", desk.server.counter(0, 0, 0, 0), 3);
    }

    private static void cancelTakesMonitorsAway() {
        Desk desk = withBean();
        desk.server.counter(0, 0, 10, 5);
        observes(desk, 12, 1, 15);
        due.is("cancel", desk.server.cancel(0), true);
        due.is("cancel again", desk.server.cancel(0), false);
        due.is("mark of a cancelled one", desk.server.mark(0), 0);
        observes(desk, 99, 0);
        int[] none = {-1, 1, 5, 6, Integer.MIN_VALUE, Integer.MAX_VALUE};
        for (int monitor : none) {
            due.is("cancel " + monitor, desk.server.cancel(monitor), false);
        }
        desk.server.counter(0, 0, 100, 5);
        due.is("a new one starts anew", desk.server.mark(0), 100);
        due.is("a new one observed nothing before", desk.server.observe(), 0);
        due.is("cancel gives no notice", desk.server.listen(63), 2);
    }

    private static void counterWithSteps() {
        Desk desk = withBean();
        desk.server.counter(0, 0, 10, 4);
        due.is("mark at first", desk.server.mark(0), 10);
        observes(desk, 9, 0, 10);
        observes(desk, 10, 1, 14);
        due.is("REACHED", desk.notice(0), "2 2 0 10");
        observes(desk, 10, 0, 14);
        observes(desk, 13, 0, 14);
        observes(desk, 14, 1, 18);
        observes(desk, 17, 0, 18);
        observes(desk, 29, 1, 30);
        observes(desk, 30, 1, 34);
        observes(desk, 33, 0, 34);
        due.is("REACHED", desk.notice(0), "5 2 0 30");
    }

    private static void counterWithoutStep() {
        Desk desk = withBean();
        desk.server.counter(0, 0, 10, 0);
        observes(desk, 9, 0, 10);
        observes(desk, 10, 1, 10);
        observes(desk, 10, 0, 10);
        observes(desk, 20, 0, 10);
        observes(desk, 9, 0, 10);
        observes(desk, 10, 1, 10);
        observes(desk, 20, 0, 10);
        observes(desk, 19, 1, 10);
        observes(desk, 19, 0, 10);
    }

    private static void counterThatFalls() {
        Desk desk = withBean();
        desk.server.counter(0, 0, 10, 4);
        observes(desk, 17, 1, 18);
        observes(desk, 16, 1, 18);
        observes(desk, 11, 1, 14);
        observes(desk, 9, 0, 10);
        observes(desk, 8, 0, 10);
        observes(desk, -100, 0, 10);
        observes(desk, 10, 1, 14);
        observes(desk, Integer.MIN_VALUE, 0, 10);
    }

    private static void counterAfterErrors() {
        Desk desk = withBean();
        desk.server.counter(0, 0, 10, 4);
        observes(desk, 17, 1, 18);
        desk.server.unset(0, 0);
        due.is("ERROR", desk.server.observe(), 1);
        due.is("an error changes no mark", desk.server.mark(0), 18);
        observes(desk, 17, 0, 18);
        desk.server.unset(0, 0);
        due.is("ERROR", desk.server.observe(), 1);
        observes(desk, 16, 1, 18);
        Desk fresh = withBean();
        fresh.server.counter(0, 0, 10, 0);
        due.is("ERROR at once", fresh.server.observe(), 1);
        observes(fresh, -5, 0, 10);
        observes(fresh, 10, 1, 10);
        fresh.server.unset(0, 0);
        fresh.server.observe();
        observes(fresh, 10, 0, 10);
    }

    private static void counterMarksAreExact() {
        Desk desk = withBean();
        desk.server.counter(0, 0, Integer.MAX_VALUE, Integer.MAX_VALUE);
        observes(desk, Integer.MAX_VALUE, 1, 4294967294L);
        observes(desk, Integer.MAX_VALUE, 0, 4294967294L);
        Desk wide = withBean();
        wide.server.counter(0, 0, Integer.MIN_VALUE, 1);
        observes(wide, Integer.MIN_VALUE, 1, -2147483647L);
        observes(wide, Integer.MAX_VALUE, 1, 2147483648L);
        observes(wide, Integer.MAX_VALUE, 0, 2147483648L);
        Desk three = withBean();
        three.server.counter(0, 0, Integer.MIN_VALUE, 3);
        observes(three, Integer.MAX_VALUE - 1, 1, 2147483647L);
        observes(three, Integer.MAX_VALUE, 1, 2147483650L);
        Desk below = withBean();
        below.server.counter(0, 0, -7, 3);
        observes(below, -8, 0, -7);
        observes(below, -5, 1, -4);
        observes(below, -1, 1, 2);
        Desk top = withBean();
        top.server.counter(0, 0, Integer.MAX_VALUE, 0);
        observes(top, Integer.MAX_VALUE, 1, Integer.MAX_VALUE);
    }

    private static void gaugeSides() {
        Desk desk = withBean();
        desk.server.gauge(0, 0, 3, 8);
        observes(desk, 5, 0, 0);
        observes(desk, 9, 1, 1);
        due.is("HIGH", desk.notice(0), "2 3 0 9");
        observes(desk, 12, 0, 1);
        observes(desk, 5, 0, 1);
        observes(desk, 9, 0, 1);
        observes(desk, 1, 1, -1);
        due.is("LOW", desk.notice(0), "3 4 0 1");
        observes(desk, 0, 0, -1);
        observes(desk, 5, 0, -1);
        observes(desk, 2, 0, -1);
        observes(desk, 20, 1, 1);
        desk.server.unset(0, 0);
        due.is("ERROR", desk.server.observe(), 1);
        due.is("an error changes no side", desk.server.mark(0), 1);
        observes(desk, 20, 0, 1);
        observes(desk, -20, 1, -1);
    }

    private static void gaugeAtItsBounds() {
        Desk desk = withBean();
        desk.server.gauge(0, 0, 3, 4);
        observes(desk, 3, 1, -1);
        observes(desk, 4, 1, 1);
        observes(desk, 3, 1, -1);
        Desk wide = withBean();
        wide.server.gauge(0, 0, -10, 10);
        observes(wide, 9, 0, 0);
        observes(wide, -9, 0, 0);
        observes(wide, 10, 1, 1);
        observes(wide, -9, 0, 1);
        observes(wide, -10, 1, -1);
        observes(wide, 9, 0, -1);
    }

    private static void errors() {
        Desk desk = withBean();
        desk.server.gauge(0, 0, 3, 8);
        due.is("missing at first", desk.server.observe(), 1);
        due.is("ERROR", desk.notice(0), "2 5 0 0");
        due.is("still missing", desk.server.observe(), 0);
        desk.server.mark(0);
        due.is("still missing", desk.server.observe(), 0);
        observes(desk, 5, 0);
        desk.server.unset(0, 0);
        due.is("missing again", desk.server.observe(), 1);
        desk.unregister("m:k=1");
        due.is("gone while erring", desk.server.observe(), 0);
        desk.register("m:k=1");
        due.is("back, but missing", desk.server.observe(), 0);
        observes(desk, 9, 1, 1);
        desk.unregister("m:k=1");
        due.is("gone", desk.server.observe(), 1);
        due.is("ERROR", desk.notice(0), "8 5 0 0");
        due.is("still gone", desk.server.observe(), 0);
    }

    private static void monitorsGoByName() {
        Desk desk = new Desk();
        desk.register("x:a=1");
        desk.register("m:b=2,a=1");
        desk.server.set(0, 0, 100);
        desk.server.set(1, 0, 5);
        desk.server.counter(1, 0, 10, 10);
        due.is("below", desk.server.observe(), 0);
        desk.unregister("m:a=1,b=2");
        desk.register("y:a=1");
        desk.server.set(1, 0, 50);
        due.is("another bean with the number", desk.server.observe(), 1);
        due.is("gives an ERROR", desk.server.notice(0, 1), 5);
        desk.unregister("x:a=1");
        desk.register("m:a=1,b=2");
        desk.server.set(0, 0, 25);
        due.is("the name with another number", desk.server.observe(), 1);
        due.is("is observed", desk.server.notice(0, 3), 25);
        due.is("mark", desk.server.mark(0), 30);
        due.is("the source is the monitor", desk.server.notice(0, 2), 0);
        desk.server.set(0, 1, 7);
        desk.server.gauge(0, 1, 0, 7);
        due.is("another attribute", desk.server.observe(), 1);
        due.is("of another monitor", desk.notice(0), "9 3 1 7");
    }

    private static void observeGoesByNumber() {
        Desk desk = withBean();
        desk.server.set(0, 0, 7);
        desk.server.gauge(0, 1, 0, 1);
        desk.server.counter(0, 0, 7, 0);
        desk.server.gauge(0, 0, 6, 7);
        desk.server.gauge(0, 0, 7, 8);
        due.is("all four", desk.server.observe(), 4);
        due.is("first", desk.notice(3), "2 5 0 0");
        due.is("second", desk.notice(2), "3 2 1 7");
        due.is("third", desk.notice(1), "4 3 2 7");
        due.is("fourth", desk.notice(0), "5 4 3 7");
    }

    private static void markOfNone() {
        Desk desk = withBean();
        desk.server.counter(0, 0, 9, 1);
        due.is("mark", desk.server.mark(0), 9);
        int[] none = {-1, 1, 5, 6, Integer.MIN_VALUE, Integer.MAX_VALUE};
        for (int monitor : none) {
            due.is("mark " + monitor, desk.server.mark(monitor), 0);
        }
    }
}
