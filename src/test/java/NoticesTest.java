/** "Terms": NOTICES and the LOG, and promises 19 and 20: listen, notice. */
public final class NoticesTest {
    private static final Due due = new Due();

    public static void main(String[] args) {
        numberedFromOne();
        numbersGoOnFarBeyondTheLog();
        theLatestSixteen();
        sixteenOfThoseListenedTo();
        listenedToWhenGiven();
        allAreListenedToAtFirst();
        eachKindHasItsBit();
        otherBitsDoNothing();
        kindsSourcesAndValues();
        whatIsTold();
        listenTellsHowManyWereGiven();
        placesThatAreNone();
        whatThatIsNone();
        due.end();
    }

    /** Gives one notice: REGISTERED if the bean isn't there, else GONE. */
    private static void giveOne(Desk desk, int i) {
        if (i % 2 == 1) {
            desk.register("a:a=1");
        } else {
            desk.unregister("a:a=1");
        }
    }

    private static Desk withNotices(int count) {
        Desk desk = new Desk();
        for (int i = 1; i <= count; i++) {
            giveOne(desk, i);
        }
        return desk;
    }

    private static void numberedFromOne() {
        due.by("NOTICES are numbered 1, 2, .. in the order in which they are given");
        Desk desk = new Desk();
        for (int i = 1; i <= 20; i++) {
            giveOne(desk, i);
            due.is("the latest", desk.notice(0, 0), i);
        }
    }

    private static void numbersGoOnFarBeyondTheLog() {
        due.by("NOTICES are numbered 1, 2, ..: no number comes again");
        Desk desk = new Desk();
        desk.register("a:a=1");
        for (int i = 0; i < 6; i++) {
            desk.gauge(0, 0, 0, 1);
        }
        for (int i = 0; i < 200; i++) {
            desk.set(0, 0, i % 2);
            desk.observe();
        }
        due.is("the latest", desk.notice(0), "1201 3 5 1");
        due.is("the oldest that is kept", desk.notice(15), "1186 3 2 1");
        due.is("no older one", desk.notice(16), "none");
        due.is("so many", desk.listen(63), 1201);
    }

    private static void theLatestSixteen() {
        due.by("The LOG keeps the latest 16");
        for (int count = 0; count <= 50; count++) {
            Desk desk = withNotices(count);
            int kept = Math.min(count, 16);
            for (int k = 0; k < kept; k++) {
                int number = count - k;
                due.is("place " + k + " of " + count, desk.notice(k), number + " " + (number + 1) % 2 + " 0 0");
            }
            due.is("behind the last of " + count, desk.notice(kept), "none");
            due.is("place 16 of " + count, desk.notice(16), "none");
        }
    }

    private static void sixteenOfThoseListenedTo() {
        due.by("the latest 16 of those whose kind was LISTENED to");
        Desk desk = new Desk();
        desk.listen(2);
        for (int i = 1; i <= 36; i++) {
            giveOne(desk, i);
        }
        for (int k = 0; k < 16; k++) {
            due.is("place " + k, desk.notice(k), 36 - 2 * k + " 1 0 0");
        }
        due.is("no 17th", desk.notice(16), "none");
    }

    private static void listenedToWhenGiven() {
        due.by("whose kind was LISTENED to when they were given");
        Desk desk = withNotices(2);
        desk.listen(2);
        giveOne(desk, 3);
        giveOne(desk, 4);
        due.is("kept since", desk.notice(0), "4 1 0 0");
        due.is("kept before", desk.notice(1), "2 1 0 0");
        due.is("kept before, of a kind that isn't listened to now", desk.notice(2), "1 0 0 0");
        due.is("no more", desk.notice(3), "none");
        desk.listen(1);
        giveOne(desk, 5);
        giveOne(desk, 6);
        due.is("the other kind", desk.notice(0), "5 0 0 0");
        due.is("what wasn't listened to doesn't come back", desk.notice(1), "4 1 0 0");
        desk.listen(0);
        giveOne(desk, 7);
        giveOne(desk, 8);
        due.is("no kind", desk.notice(0), "5 0 0 0");
        desk.listen(3);
        giveOne(desk, 9);
        due.is("all count", desk.notice(0), "9 0 0 0");
    }

    /** Gives a notice of each kind: numbers 1 to 6 have the kinds 0, 5, 4, 3, 2, 1. */
    private static void giveOneOfEach(Desk desk) {
        desk.register("x:a=1");
        desk.gauge(0, 0, 0, 5);
        desk.observe();
        desk.set(0, 0, -3);
        desk.observe();
        desk.set(0, 0, 5);
        desk.observe();
        desk.counter(0, 0, 4, 0);
        desk.observe();
        desk.unregister("x:a=1");
    }

    private static void allAreListenedToAtFirst() {
        due.by("LISTENED to (at first all are)");
        Desk desk = new Desk();
        giveOneOfEach(desk);
        int[] kinds = {1, 2, 3, 4, 5, 0};
        for (int k = 0; k < 6; k++) {
            due.is("kind at " + k, desk.notice(k, 1), kinds[k]);
        }
        due.is("no more", desk.notice(6), "none");
    }

    private static void eachKindHasItsBit() {
        due.by("From now on the kinds k with bit k of kinds are listened to");
        String[] notices = {"1 0 0 0", "6 1 0 0", "5 2 1 5", "4 3 0 5", "3 4 0 -3", "2 5 0 0"};
        for (int kinds = 0; kinds < 64; kinds++) {
            Desk desk = new Desk();
            desk.listen(kinds);
            giveOneOfEach(desk);
            int k = 0;
            int[] latestFirst = {1, 2, 3, 4, 5, 0};
            for (int kind : latestFirst) {
                if ((kinds >> kind & 1) == 1) {
                    due.is("kinds " + kinds + ", place " + k, desk.notice(k), notices[kind]);
                    k++;
                }
            }
            due.is("kinds " + kinds + ", no more", desk.notice(k), "none");
            due.is("all were given", desk.listen(0), 6);
        }
    }

    private static void otherBitsDoNothing() {
        due.by("the kinds k with bit k of kinds: there are kinds 0 to 5 alone");
        int[][] kindsAndKept = {{64, 0}, {Integer.MIN_VALUE, 0}, {-64, 0}, {64 + 1, 1}, {-1, 6}, {Integer.MAX_VALUE, 6},
            {Integer.MIN_VALUE + 32, 1}};
        for (int[] each : kindsAndKept) {
            Desk desk = new Desk();
            due.is("listen " + each[0], desk.listen(each[0]), 0);
            giveOneOfEach(desk);
            due.is("behind the last with kinds " + each[0], desk.notice(each[1]), "none");
            due.is("the last with kinds " + each[0], each[1] == 0 || desk.notice(each[1] - 1, 0) > 0, true);
        }
    }

    private static void kindsSourcesAndValues() {
        due.by("a SOURCE (the bean's number for 0 and 1, else the monitor's) and a value (what was observed; 0 for 0, 1 and 5)");
        Desk desk = new Desk();
        desk.register("a:a=1");
        desk.register("b:a=1");
        desk.set(1, 0, Integer.MIN_VALUE);
        desk.set(1, 1, Integer.MAX_VALUE);
        desk.gauge(1, 2, 0, 1);
        desk.gauge(1, 1, 0, 1);
        desk.gauge(1, 0, 0, 1);
        desk.counter(1, 1, 0, 0);
        desk.observe();
        desk.unregister("b:a=1");
        due.is("REGISTERED", desk.notice(5), "2 0 1 0");
        due.is("ERROR", desk.notice(4), "3 5 0 0");
        due.is("HIGH", desk.notice(3), "4 3 1 2147483647");
        due.is("LOW", desk.notice(2), "5 4 2 -2147483648");
        due.is("REACHED", desk.notice(1), "6 2 3 2147483647");
        due.is("GONE", desk.notice(0), "7 1 1 0");
    }

    private static void whatIsTold() {
        due.by("what 0 its number, 1 its kind, 2 its source, 3 its value");
        Desk desk = new Desk();
        desk.register("a:a=1");
        desk.set(0, 0, 77);
        desk.gauge(0, 1, 0, 1);
        desk.counter(0, 0, 70, 5);
        due.is("an error and a mark that is reached", desk.observe(), 2);
        int[][] told = {{3, 2, 1, 77}, {2, 5, 0, 0}, {1, 0, 0, 0}};
        for (int k = 0; k < told.length; k++) {
            for (int what = 0; what < 4; what++) {
                due.is("notice " + k + " " + what, desk.notice(k, what), told[k][what]);
            }
        }
    }

    private static void listenTellsHowManyWereGiven() {
        due.by("listen: how many notices were given so far");
        Desk desk = new Desk();
        due.is("at first", desk.listen(0), 0);
        giveOne(desk, 1);
        due.is("one that wasn't kept", desk.listen(0), 1);
        giveOne(desk, 2);
        due.is("two", desk.listen(63), 2);
        giveOne(desk, 3);
        due.is("three", desk.listen(63), 3);
        due.is("listen gives none", desk.listen(63), 3);
        due.is("numbers count what wasn't kept too", desk.notice(0), "3 0 0 0");
        due.is("more than the log keeps", withNotices(17).listen(63), 17);
    }

    private static void placesThatAreNone() {
        due.by("the notice at place k of the log (0: the latest); NONE if there is none");
        int[] none = {-1, 1, 15, 16, Integer.MIN_VALUE, Integer.MAX_VALUE};
        for (int what = 0; what < 4; what++) {
            due.is("an empty log, what " + what, new Desk().notice(0, what), BeanServer.NONE);
            for (int k : none) {
                due.is("notice " + k + " " + what, withNotices(1).notice(k, what), BeanServer.NONE);
            }
            due.is("place 15 of 16, what " + what, withNotices(16).notice(15, what) >= 0, true);
            due.is("place 16 of 16, what " + what, withNotices(16).notice(16, what), BeanServer.NONE);
            due.is("place 15 of 15, what " + what, withNotices(15).notice(15, what), BeanServer.NONE);
            due.is("place 16 of 40, what " + what, withNotices(40).notice(16, what), BeanServer.NONE);
            due.is("place -1 of 40, what " + what, withNotices(40).notice(-1, what), BeanServer.NONE);
        }
    }

    private static void whatThatIsNone() {
        due.by("NONE if .. what isn't 0 .. 3");
        int[] none = {-1, 4, 5, Integer.MIN_VALUE, Integer.MAX_VALUE};
        for (int what : none) {
            due.is("what " + what, withNotices(1).notice(0, what), BeanServer.NONE);
            due.is("what " + what + " of a full log", withNotices(20).notice(15, what), BeanServer.NONE);
        }
    }
}
