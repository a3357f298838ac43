/** Promises 14 and 15: what counter and gauge have in common, their numbers and their codes. */
public final class NewMonitorsTest {
    private static final Due due = new Due();
    private static final int MIN = Integer.MIN_VALUE;
    private static final int MAX = Integer.MAX_VALUE;

    /** A kind of monitor that gives a notice when it observes 7. */
    private enum Kind {
        COUNTER(2) {
            int made(Desk desk, int bean, int attribute, boolean rightly) {
                return desk.counter(bean, attribute, 7, rightly ? 0 : -1);
            }
        },
        GAUGE(3) {
            int made(Desk desk, int bean, int attribute, boolean rightly) {
                return desk.gauge(bean, attribute, rightly ? 6 : 7, 7);
            }
        };

        final int notice;

        Kind(int notice) {
            this.notice = notice;
        }

        /** A new one, or, if it isn't made rightly, one whose step or bounds are BAD. */
        abstract int made(Desk desk, int bean, int attribute, boolean rightly);

        int made(Desk desk, int bean, int attribute) {
            return made(desk, bean, attribute, true);
        }

        Kind other() {
            return this == COUNTER ? GAUGE : COUNTER;
        }
    }

    public static void main(String[] args) {
        for (Kind kind : Kind.values()) {
            wrongAttributes(kind);
            eachAttribute(kind);
            noSuchBean(kind);
            sixMonitors(kind);
            codesInOrder(kind);
        }
        due.end();
    }

    private static Desk withBean() {
        Desk desk = new Desk();
        desk.register("m:k=1");
        return desk;
    }

    private static void wrongAttributes(Kind kind) {
        due.by(kind + ": BAD: attribute isn't 0 .. 4");
        Desk desk = withBean();
        int[] none = {-1, 5, 6, MIN, MAX};
        for (int attribute : none) {
            due.is("attribute " + attribute, kind.made(desk, 0, attribute), BeanServer.BAD);
        }
        due.is("nothing was made", desk.cancel(0), false);
    }

    private static void eachAttribute(Kind kind) {
        due.by(kind + ": attribute .. 0 .. 4");
        Desk desk = withBean();
        for (int attribute = 0; attribute < 5; attribute++) {
            due.is("attribute " + attribute, kind.made(desk, 0, attribute), attribute);
        }
        due.is("all err at first", desk.observe(), 5);
        for (int attribute = 0; attribute < 5; attribute++) {
            desk.set(0, attribute, 7);
            desk.observe();
            due.is("who observes attribute " + attribute, desk.notice(0, 2), attribute);
            due.is("what it tells", desk.notice(0, 1), kind.notice);
            desk.unset(0, attribute);
        }
    }

    private static void noSuchBean(Kind kind) {
        due.by(kind + ": NONE: there is no such bean");
        Desk desk = withBean();
        desk.register("m:k=2");
        desk.unregister("m:k=1");
        int[] none = {-1, 0, 2, 11, 12, MIN, MAX};
        for (int bean : none) {
            due.is("bean " + bean, kind.made(desk, bean, 0), BeanServer.NONE);
        }
        due.is("bean 1", kind.made(desk, 1, 0), 0);
        Desk most = Scenes.full();
        most.cancel(3);
        due.is("bean 12 of 12", kind.made(most, 12, 0), BeanServer.NONE);
        due.is("bean 11 of 12", kind.made(most, 11, 0), 3);
    }

    private static void sixMonitors(Kind kind) {
        due.by(kind + ": its number. FULL: 6 monitors are there");
        Desk desk = withBean();
        for (int i = 0; i < 6; i++) {
            due.is("number " + i, kind.made(desk, 0, 0), i);
        }
        due.is("the 7th", kind.made(desk, 0, 0), BeanServer.FULL);
        due.is("a 7th of the other kind", kind.other().made(desk, 0, 0), BeanServer.FULL);
        desk.cancel(5);
        due.is("when one is gone", kind.made(desk, 0, 0), 5);
        due.is("full again", kind.made(desk, 0, 0), BeanServer.FULL);
        due.is("no notices of these", desk.listen(63), 1);
    }

    private static void codesInOrder(Kind kind) {
        due.by(kind + ": BAD, then NONE, then FULL");
        Desk desk = withBean();
        due.is("BAD before NONE, by attribute", kind.made(desk, 1, 5), BeanServer.BAD);
        due.is("BAD before NONE, by the rest", kind.made(desk, 1, 0, false), BeanServer.BAD);
        for (int i = 0; i < 6; i++) {
            kind.other().made(desk, 0, 0);
        }
        due.is("BAD before FULL, by attribute", kind.made(desk, 0, -1), BeanServer.BAD);
        due.is("BAD before FULL, by the rest", kind.made(desk, 0, 0, false), BeanServer.BAD);
        due.is("NONE before FULL", kind.made(desk, 1, 0), BeanServer.NONE);
        due.is("FULL", kind.made(desk, 0, 0), BeanServer.FULL);
    }
}
