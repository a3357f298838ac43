/** Promises 6 to 8: set, unset, get. */
public final class AttributesTest {
    private static final Due due = new Due();

    public static void main(String[] args) {
        setAndGet();
        unsetMakesMissing();
        wrongNumbers();
        beansAreApart();
        due.end();
    }

    private static void setAndGet() {
        Desk desk = new Desk();
        desk.register("a:a=1");
        int[] values = {0, 1, -1, Integer.MAX_VALUE, Integer.MIN_VALUE};
        for (int attribute = 0; attribute < 5; attribute++) {
            due.is("get before", desk.server.get(0, attribute), 0);
            for (int v : values) {
                due.is("set", desk.server.set(0, attribute, v), true);
                due.is("get", desk.server.get(0, attribute), v);
            }
            desk.server.set(0, attribute, 100 + attribute);
        }
        for (int attribute = 0; attribute < 5; attribute++) {
            due.is("each its own", desk.server.get(0, attribute), 100 + attribute);
        }
        due.is("no notices of these", desk.server.listen(63), 1);
    }

    private static void unsetMakesMissing() {
        Desk desk = new Desk();
        desk.register("a:a=1");
        due.is("unset what was never set", desk.server.unset(0, 1), false);
        desk.server.set(0, 1, 5);
        desk.server.set(0, 2, 6);
        due.is("unset", desk.server.unset(0, 1), true);
        due.is("get a missing one", desk.server.get(0, 1), 0);
        due.is("get the other", desk.server.get(0, 2), 6);
        due.is("unset again", desk.server.unset(0, 1), false);
        desk.server.set(0, 1, 0);
        due.is("0 isn't missing", desk.server.unset(0, 1), true);
    }

    private static void wrongNumbers() {
        Desk desk = new Desk();
        desk.register("a:a=1");
        for (int attribute = 0; attribute < 5; attribute++) {
            desk.server.set(0, attribute, 9);
        }
        int[] noBeans = {-1, 1, 11, 12, Integer.MIN_VALUE, Integer.MAX_VALUE};
        int[] noAttributes = {-1, 5, Integer.MIN_VALUE, Integer.MAX_VALUE};
        for (int bean : noBeans) {
            due.is("set of bean " + bean, desk.server.set(bean, 0, 1), false);
            due.is("unset of bean " + bean, desk.server.unset(bean, 0), false);
            due.is("get of bean " + bean, desk.server.get(bean, 0), 0);
        }
        for (int attribute : noAttributes) {
            due.is("set of attribute " + attribute, desk.server.set(0, attribute, 1), false);
            due.is("unset of attribute " + attribute, desk.server.unset(0, attribute), false);
            due.is("get of attribute " + attribute, desk.server.get(0, attribute), 0);
        }
        due.is("nothing changed", desk.server.get(0, 0) + desk.server.get(0, 4), 18);
    }

    private static void beansAreApart() {
        Desk desk = new Desk();
        for (int i = 0; i < 12; i++) {
            desk.register("a:a=" + i);
            desk.server.set(i, i % 5, i + 50);
        }
        for (int i = 0; i < 12; i++) {
            for (int attribute = 0; attribute < 5; attribute++) {
                due.is("get", desk.server.get(i, attribute), attribute == i % 5 ? i + 50 : 0);
            }
        }
    }
}
