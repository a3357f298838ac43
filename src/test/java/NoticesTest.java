/** Promises 19 and 20: listen, notice. */
public final class NoticesTest {
    private static final Due due = new Due();

    public static void main(String[] args) {
        listenCountsAllNotices();
        onlyKindsListenedToAreKept();
        eachKindHasItsBit();
        theLogKeepsSixteen();
        wrongPlaces();
        due.end();
    }

    private static void listenCountsAllNotices() {
        Desk desk = new Desk();
        due.is("at first", desk.server.listen(0), 0);
        desk.register("a:a=1");
        due.is("one that wasn't kept", desk.server.listen(0), 1);
        due.is("nothing is kept", desk.server.notice(0, 0), BeanServer.NONE);
        desk.unregister("a:a=1");
        due.is("two", desk.server.listen(-1), 2);
        desk.register("a:a=1");
        due.is("three", desk.server.listen(63), 3);
        due.is("numbers count what wasn't kept too", desk.notice(0), "3 0 0 0");
        due.is("only one is kept", desk.server.notice(1, 0), BeanServer.NONE);
    }

    private static void onlyKindsListenedToAreKept() {
        Desk desk = new Desk();
        desk.register("a:a=1");
        desk.server.listen(2);
        desk.register("b:a=1");
        desk.unregister("a:a=1");
        desk.register("c:a=1");
        due.is("latest", desk.notice(0), "3 1 0 0");
        due.is("what was kept before stays", desk.notice(1), "1 0 0 0");
        due.is("no more", desk.server.notice(2, 0), BeanServer.NONE);
        desk.server.listen(~2);
        desk.unregister("b:a=1");
        desk.register("d:a=1");
        due.is("latest", desk.notice(0), "6 0 1 0");
        due.is("before it", desk.notice(1), "3 1 0 0");
    }

    /** Gives a notice of each kind: numbers 1 to 6 have the kinds 0, 5, 4, 3, 2, 1. */
    private static void giveOneOfEach(Desk desk) {
        desk.register("a:a=1");
        desk.server.gauge(0, 0, 0, 5);
        desk.server.observe();
        desk.server.set(0, 0, -3);
        desk.server.observe();
        desk.server.set(0, 0, 5);
        desk.server.observe();
        desk.server.counter(0, 0, 4, 0);
        desk.server.observe();
        desk.unregister("a:a=1");
    }

    private static void eachKindHasItsBit() {
        String[] notices = {"1 0 0 0", "6 1 0 0", "5 2 1 5", "4 3 0 5", "3 4 0 -3", "2 5 0 0"};
        for (int kind = 0; kind < 6; kind++) {
            Desk desk = new Desk();
            desk.server.listen(1 << kind);
            giveOneOfEach(desk);
            due.is("kind " + kind, desk.notice(0), notices[kind]);
            due.is("kind " + kind + " alone", desk.server.notice(1, 0), BeanServer.NONE);
            Desk others = new Desk();
            others.server.listen(63 ^ 1 << kind);
            giveOneOfEach(others);
            for (int k = 0; k < 5; k++) {
                due.is("kind " + kind + " isn't kept", others.server.notice(k, 1) != kind, true);
            }
            due.is("the other kinds are", others.server.notice(4, 0) > 0, true);
            due.is("and no more", others.server.notice(5, 0), BeanServer.NONE);
            due.is("all count", others.server.listen(0), 6);
        }
    }

    private static void theLogKeepsSixteen() {
        Desk desk = new Desk();
        for (int i = 1; i <= 40; i++) {
            if (i % 2 == 1) {
                desk.register("a:a=1");
            } else {
                desk.unregister("a:a=1");
            }
            int kept = Math.min(i, 16);
            for (int k = 0; k < kept; k++) {
                due.is("number at place " + k, desk.server.notice(k, 0), i - k);
                due.is("kind at place " + k, desk.server.notice(k, 1), (i - k + 1) % 2);
            }
            due.is("behind the last", desk.server.notice(kept, 0), BeanServer.NONE);
        }
    }

    private static void wrongPlaces() {
        Desk desk = new Desk();
        desk.register("a:a=1");
        int[] places = {-1, 1, 15, 16, Integer.MIN_VALUE, Integer.MAX_VALUE};
        for (int k : places) {
            for (int what = -1; what < 5; what++) {
                due.is("notice " + k + " " + what, desk.server.notice(k, what), BeanServer.NONE);
            }
        }
        int[] whats = {-1, 4, Integer.MIN_VALUE, Integer.MAX_VALUE};
        for (int what : whats) {
            due.is("what " + what, desk.server.notice(0, what), BeanServer.NONE);
        }
    }
}
