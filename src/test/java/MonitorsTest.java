/** "Terms": MONITORS, when one ERRS, and promises 16 to 18: cancel, observe, mark. */
public final class MonitorsTest {
    private static final Due due = new Due();
    private static final int[] NO_MONITORS = {-1, 1, 5, 6, Integer.MIN_VALUE, Integer.MAX_VALUE};

    public static void main(String[] args) {
        lowestFreeNumber();
        nameThatABeanHasNow();
        staysWhenTheBeanIsGone();
        theBeanThatHasTheNameAtThatTime();
        errsWithoutBean();
        errsWithoutAttribute();
        onlyTheFirstErrorGivesANotice();
        anErrorChangesNothingElse();
        monitorsErrApart();
        cancelTakesAMonitorAway();
        cancelRefuses();
        aNewMonitorKnowsNothingOfTheOldOne();
        observeCountsNotices();
        observeGoesByNumber();
        observeCountsWhatIsNotListenedTo();
        markOfEachKind();
        markOfNoneIsZero();
        due.end();
    }

    private static Desk withBean() {
        Desk desk = new Desk();
        desk.register("m:k=1");
        return desk;
    }

    private static void lowestFreeNumber() {
        due.by("MONITORS 0 .. 5 likewise: a new one gets the lowest number that is free");
        for (int gone = 0; gone < 64; gone++) {
            Desk desk = withBean();
            for (int i = 0; i < 6; i++) {
                due.is("monitor " + i, i % 2 == 0 ? desk.counter(0, 0, 0, 0) : desk.gauge(0, 0, 0, 1), i);
            }
            for (int i = 5; i >= 0; i--) {
                if ((gone >> i & 1) == 1) {
                    due.is("cancel " + i, desk.cancel(i), true);
                }
            }
            for (int i = 0; i < 6; i++) {
                if ((gone >> i & 1) == 1) {
                    due.is("the lowest of those that are gone", desk.gauge(0, 0, 0, 1), i);
                }
            }
            due.is("then no more", desk.counter(0, 0, 0, 0), BeanServer.FULL);
        }
    }

    private static void nameThatABeanHasNow() {
        due.by("for the name that a bean has now");
        Desk desk = new Desk();
        desk.register("x:a=1");
        desk.register("m:b=2,a=1");
        desk.set(0, 0, 100);
        desk.counter(1, 0, 10, 10);
        desk.gauge(1, 0, 0, 10);
        desk.unregister("m:a=1,b=2");
        desk.register("y:a=1");
        desk.set(1, 0, 50);
        due.is("another bean with its number isn't observed", desk.observe(), 2);
        due.is("they err", desk.notice(0), "6 5 1 0");
        desk.unregister("x:a=1");
        due.is("the name with another number", desk.register("m:a=1,b=2"), 0);
        desk.set(0, 0, 25);
        due.is("is observed", desk.observe(), 2);
        due.is("by the counter", desk.notice(1), "9 2 0 25");
        due.is("by the gauge", desk.notice(0), "10 3 1 25");
    }

    private static void staysWhenTheBeanIsGone() {
        due.by("a monitor has the NAME of a bean, and stays when the bean is gone");
        Desk desk = withBean();
        desk.counter(0, 0, 5, 10);
        desk.set(0, 0, 7);
        desk.observe();
        desk.unregister("m:k=1");
        due.is("its mark", desk.mark(0), 15);
        desk.register("n:k=1");
        due.is("its number isn't free", desk.gauge(0, 0, 0, 1), 1);
        due.is("it can be cancelled", desk.cancel(0), true);
    }

    private static void theBeanThatHasTheNameAtThatTime() {
        due.by("it OBSERVES the attribute of the bean that has this name at that time");
        Desk desk = withBean();
        desk.counter(0, 0, 5, 10);
        desk.set(0, 0, 17);
        due.is("observe", desk.observe(), 1);
        desk.unregister("m:k=1");
        desk.register("m:k=1");
        desk.set(0, 0, 18);
        due.is("a new bean with the name: no error", desk.observe(), 0);
        desk.set(0, 0, 16);
        due.is("it knows what the old bean had", desk.observe(), 1);
        due.is("value", desk.notice(0, 3), 16);
    }

    private static void errsWithoutBean() {
        due.by("A monitor ERRS if there is no bean with its name: a notice ERROR");
        Desk desk = withBean();
        desk.set(0, 0, 1);
        desk.counter(0, 0, 5, 10);
        due.is("no error", desk.observe(), 0);
        desk.unregister("m:k=1");
        due.is("observe", desk.observe(), 1);
        due.is("ERROR", desk.notice(0), "3 5 0 0");
    }

    private static void errsWithoutAttribute() {
        due.by("A monitor ERRS if .. the bean hasn't the attribute: a notice ERROR");
        Desk desk = withBean();
        for (int attribute = 1; attribute < 5; attribute++) {
            desk.set(0, attribute, 100);
        }
        desk.counter(0, 0, 5, 10);
        desk.cancel(0);
        desk.counter(0, 1, 500, 10);
        desk.counter(0, 0, 5, 10);
        due.is("at first", desk.observe(), 1);
        due.is("ERROR", desk.notice(0), "2 5 1 0");
        desk.set(0, 0, 0);
        due.is("0 isn't missing", desk.observe(), 0);
        desk.unset(0, 0);
        due.is("when it was unset", desk.observe(), 1);
        due.is("ERROR", desk.notice(0), "3 5 1 0");
    }

    private static void onlyTheFirstErrorGivesANotice() {
        due.by("unless it erred the last time it was looked at too");
        Desk desk = withBean();
        desk.gauge(0, 0, 3, 8);
        due.is("missing", desk.observe(), 1);
        due.is("missing again", desk.observe(), 0);
        desk.mark(0);
        due.is("mark is no look", desk.observe(), 0);
        desk.set(0, 0, 5);
        desk.unset(0, 0);
        due.is("there between two looks", desk.observe(), 0);
        desk.unregister("m:k=1");
        due.is("then without bean", desk.observe(), 0);
        desk.register("m:k=1");
        due.is("then without attribute", desk.observe(), 0);
        desk.set(0, 0, 5);
        due.is("there", desk.observe(), 0);
        desk.unset(0, 0);
        due.is("missing after a look without error", desk.observe(), 1);
        due.is("ERROR", desk.notice(0), "5 5 0 0");
        due.is("and again", desk.observe(), 0);
    }

    private static void anErrorChangesNothingElse() {
        due.by("A monitor ERRS: nothing else of it changes");
        Desk desk = withBean();
        desk.set(0, 0, 17);
        desk.counter(0, 0, 5, 10);
        desk.counter(0, 0, 5, 0);
        desk.gauge(0, 0, 3, 8);
        desk.observe();
        desk.unset(0, 0);
        due.is("all err", desk.observe(), 3);
        due.is("mark of the counter", desk.mark(0), 25);
        due.is("mark of the counter without step", desk.mark(1), 5);
        due.is("side of the gauge", desk.mark(2), 1);
        desk.set(0, 0, 17);
        due.is("nothing new", desk.observe(), 0);
    }

    private static void monitorsErrApart() {
        due.by("it erred the last time: each monitor for itself");
        Desk desk = withBean();
        desk.set(0, 1, 5);
        desk.gauge(0, 0, 3, 8);
        desk.gauge(0, 1, 3, 8);
        due.is("the first errs", desk.observe(), 1);
        desk.unset(0, 1);
        due.is("now the second too", desk.observe(), 1);
        due.is("ERROR", desk.notice(0), "3 5 1 0");
        desk.gauge(0, 0, 3, 8);
        due.is("now the third", desk.observe(), 1);
        due.is("ERROR", desk.notice(0), "4 5 2 0");
    }

    private static void cancelTakesAMonitorAway() {
        due.by("A monitor is gone");
        Desk desk = withBean();
        desk.counter(0, 0, 10, 5);
        desk.gauge(0, 0, 0, 5);
        desk.set(0, 0, 12);
        due.is("cancel", desk.cancel(0), true);
        due.is("its mark", desk.mark(0), 0);
        due.is("only the other observes", desk.observe(), 1);
        due.is("HIGH", desk.notice(0), "2 3 1 12");
        due.is("cancel the other", desk.cancel(1), true);
        desk.set(0, 0, -12);
        due.is("none observes", desk.observe(), 0);
        due.is("cancel gives no notice", desk.listen(63), 2);
    }

    private static void cancelRefuses() {
        due.by("cancel: false if there is none");
        Desk desk = withBean();
        desk.counter(0, 0, 10, 5);
        for (int monitor : NO_MONITORS) {
            due.is("cancel " + monitor, desk.cancel(monitor), false);
        }
        due.is("the monitor is there", desk.mark(0), 10);
        due.is("cancel", desk.cancel(0), true);
        due.is("cancel again", desk.cancel(0), false);
        Desk full = Scenes.full();
        due.is("cancel 6 of 6", full.cancel(6), false);
        due.is("cancel 5 of 6", full.cancel(5), true);
    }

    private static void aNewMonitorKnowsNothingOfTheOldOne() {
        due.by("MONITORS: a new one gets the lowest number, and is new");
        Desk desk = withBean();
        desk.set(0, 0, 50);
        desk.counter(0, 0, 10, 0);
        desk.observe();
        desk.cancel(0);
        desk.counter(0, 0, 10, 0);
        due.is("READY", desk.observe(), 1);
        desk.cancel(0);
        desk.gauge(0, 1, 0, 1);
        due.is("errs", desk.observe(), 1);
        desk.cancel(0);
        desk.gauge(0, 1, 0, 1);
        due.is("a new one errs anew", desk.observe(), 1);
        due.is("no side", desk.mark(0), 0);
    }

    private static void observeCountsNotices() {
        due.by("observe: how many notices that gave");
        Desk desk = withBean();
        due.is("no monitors", desk.observe(), 0);
        desk.set(0, 0, 7);
        for (int i = 0; i < 6; i++) {
            desk.gauge(0, 0, 0, 7);
            due.is("one more", desk.observe(), 1);
        }
        desk.set(0, 0, 0);
        due.is("all six", desk.observe(), 6);
        due.is("none", desk.observe(), 0);
    }

    private static void observeGoesByNumber() {
        due.by("All monitors observe, by number");
        Desk desk = withBean();
        desk.set(0, 0, 7);
        desk.gauge(0, 1, 0, 1);
        desk.counter(0, 0, 7, 0);
        desk.gauge(0, 0, 6, 7);
        desk.gauge(0, 0, 7, 8);
        desk.cancel(0);
        desk.gauge(0, 2, 0, 1);
        due.is("all four", desk.observe(), 4);
        due.is("first, though it is the latest", desk.notice(3), "2 5 0 0");
        due.is("second", desk.notice(2), "3 2 1 7");
        due.is("third", desk.notice(1), "4 3 2 7");
        due.is("fourth", desk.notice(0), "5 4 3 7");
    }

    private static void observeCountsWhatIsNotListenedTo() {
        due.by("how many notices that gave: the LOG keeps .. those whose kind was LISTENED to");
        Desk desk = withBean();
        desk.listen(0);
        desk.gauge(0, 0, 0, 7);
        desk.counter(0, 0, 0, 7);
        due.is("two notices", desk.observe(), 2);
        due.is("that aren't in the log", desk.notice(0), "1 0 0 0");
    }

    private static void markOfEachKind() {
        due.by("The MARK of a counter, or of a gauge 1 if its side is high, -1 if it is low, 0 if none");
        Desk desk = withBean();
        desk.counter(0, 0, -9, 100);
        desk.gauge(0, 0, 0, 7);
        due.is("counter", desk.mark(0), -9);
        due.is("none", desk.mark(1), 0);
        desk.set(0, 0, 7);
        desk.observe();
        due.is("counter", desk.mark(0), 91);
        due.is("high", desk.mark(1), 1);
        desk.set(0, 0, 0);
        desk.observe();
        due.is("low", desk.mark(1), -1);
    }

    private static void markOfNoneIsZero() {
        due.by("mark: 0 if there is no such monitor");
        Desk desk = withBean();
        desk.counter(0, 0, 9, 1);
        for (int monitor : NO_MONITORS) {
            due.is("mark " + monitor, desk.mark(monitor), 0);
        }
        due.is("mark of one that is there", desk.mark(0), 9);
        Desk full = Scenes.full();
        due.is("mark 6 of 6", full.mark(6), 0);
        due.is("mark 4 of 6", full.mark(4), 0);
        due.is("mark 3 of 6", full.mark(3), 1);
    }
}
