import java.util.List;
import java.util.function.Function;

/** Servers with something of everything in them, and all that can be seen of a server. */
final class Scenes {
    /** Each look is for a server of its own: some of them change it, so that what is hidden shows too. */
    static final List<Function<Desk, String>> LOOKS = List.of(Scenes::names, Scenes::attributes, Scenes::queries,
        Scenes::selection, Scenes::log, Scenes::monitorsGoingOn, Scenes::nextNumbers);

    private static final int ALL_BUT_LOW = 63 - 16;

    private Scenes() {
    }

    /** No room: beans f:n=0 .. f:n=11, 6 queries, 6 monitors, a log of more than 16 notices. */
    static Desk full() {
        Desk desk = new Desk();
        for (int i = 0; i < 12; i++) {
            desk.register("f:n=" + i);
        }
        define(desk, "1=1", "a=a", "b>0&a<9", "e/d=1", "(a=1|b=01)&c=2", "!c=3");
        desk.counter(0, 0, 5, 10);
        desk.counter(1, 1, 3, 0);
        desk.gauge(2, 2, -5, 5);
        desk.gauge(3, 3, 0, 9);
        desk.counter(4, 4, 0, 1);
        desk.gauge(0, 1, 2, 4);
        setEach(desk, -7);
        desk.observe();
        setEach(desk, 17);
        desk.observe();
        desk.listen(ALL_BUT_LOW);
        desk.select("?:n=1*,*", 0);
        return desk;
    }

    /** Room and gaps: beans s:n=0, s:n=2, s:n=3, queries 0 to 2, monitors 0, 2 (of a bean that is gone), 3. */
    static Desk sparse() {
        Desk desk = new Desk();
        for (int i = 0; i < 4; i++) {
            desk.register("s:n=" + i);
        }
        define(desk, "1=1", "a=a", "(a=1|b=01)&c=2");
        desk.counter(0, 0, 5, 10);
        desk.gauge(2, 2, -5, 5);
        desk.counter(1, 1, 3, 0);
        desk.gauge(3, 3, 0, 9);
        desk.cancel(1);
        setEach(desk, 17);
        desk.select("s:*", 0);
        desk.unregister("s:n=1");
        desk.observe();
        desk.listen(ALL_BUT_LOW);
        return desk;
    }

    private static void define(Desk desk, String... queries) {
        for (String query : queries) {
            desk.define(query);
        }
    }

    private static void setEach(Desk desk, int v) {
        for (int i = 0; i < 4; i++) {
            desk.set(i, i, v);
        }
    }

    private static String names(Desk desk) {
        StringBuilder seen = new StringBuilder();
        for (int bean = 0; bean < 12; bean++) {
            seen.append(desk.form(0, bean)).append(' ');
        }
        return seen.toString();
    }

    private static String attributes(Desk desk) {
        StringBuilder seen = new StringBuilder();
        for (int bean = 0; bean < 12; bean++) {
            for (int attribute = 0; attribute < 5; attribute++) {
                seen.append(desk.get(bean, attribute)).append(desk.unset(bean, attribute) ? " " : "- ");
            }
        }
        return seen.toString();
    }

    private static String queries(Desk desk) {
        StringBuilder seen = new StringBuilder();
        for (int query = 0; query < 6; query++) {
            seen.append(desk.form(1, query)).append(' ');
        }
        return seen.toString();
    }

    private static String selection(Desk desk) {
        return desk.selection() + desk.form(2, 0);
    }

    private static String log(Desk desk) {
        StringBuilder seen = new StringBuilder();
        for (int k = 0; k < 17; k++) {
            seen.append(desk.notice(k)).append(", ");
        }
        return seen.append(desk.listen(0)).toString();
    }

    /** Shows what the monitors remember and which kinds are listened to. */
    private static String monitorsGoingOn(Desk desk) {
        StringBuilder seen = new StringBuilder();
        seen.append(marks(desk)).append(desk.observe()).append(marks(desk));
        int[] values = {16, 40, 3, -9, 100};
        for (int v : values) {
            setEach(desk, v);
            seen.append(desk.observe()).append(marks(desk));
        }
        desk.unregister("f:n=11");
        desk.register("f:n=11");
        return seen.append(log(desk)).toString();
    }

    private static String marks(Desk desk) {
        StringBuilder seen = new StringBuilder(" marks");
        for (int monitor = 0; monitor < 6; monitor++) {
            seen.append(' ').append(desk.mark(monitor));
        }
        return seen.append(", ").toString();
    }

    private static String nextNumbers(Desk desk) {
        String numbers = desk.register("z:z=1") + " " + desk.define("c=3") + " " + desk.counter(0, 0, 0, 0)
            + " " + desk.cancel(0) + " " + desk.gauge(2, 0, 0, 1) + " " + desk.unregister("f:n=5") + " " + desk.register("z:z=2");
        return numbers + " " + names(desk);
    }
}
