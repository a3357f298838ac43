/** "Terms": ATTRIBUTES, and promises 6 to 8: set, unset, get. */
public final class AttributesTest {
    private static final Due due = new Due();
    private static final int[] NO_BEANS = {-1, 3, 11, 12, Integer.MIN_VALUE, Integer.MAX_VALUE};
    private static final int[] NO_ATTRIBUTES = {-1, 5, Integer.MIN_VALUE, Integer.MAX_VALUE};

    public static void main(String[] args) {
        missingAtFirst();
        anIntEach();
        setRefuses();
        unsetMakesMissing();
        unsetRefuses();
        getOfNoneIsZero();
        beansAreApart();
        due.end();
    }

    /** Beans 0 to 2 have all attributes; bean 1 is gone. */
    private static Desk withGap() {
        Desk desk = new Desk();
        for (int bean = 0; bean < 3; bean++) {
            desk.register("a:a=" + bean);
            for (int attribute = 0; attribute < 5; attribute++) {
                desk.set(bean, attribute, 10 * bean + attribute + 1);
            }
        }
        desk.unregister("a:a=1");
        return desk;
    }

    private static void hasAll(Desk desk) {
        for (int attribute = 0; attribute < 5; attribute++) {
            due.is("bean 0 still has " + attribute, desk.get(0, attribute), attribute + 1);
            due.is("bean 2 still has " + attribute, desk.get(2, attribute), attribute + 21);
        }
    }

    private static void missingAtFirst() {
        due.by("ATTRIBUTES a .. e .. are missing (all are at first)");
        Desk desk = new Desk();
        desk.register("a:a=1");
        for (int attribute = 0; attribute < 5; attribute++) {
            due.is("get", desk.get(0, attribute), 0);
            due.is("unset", desk.unset(0, attribute), false);
        }
    }

    private static void anIntEach() {
        due.by("An attribute (0 .. 4 for a .. e) of a bean becomes v");
        Desk desk = new Desk();
        desk.register("a:a=1");
        desk.define("a=1&b=2&c=3&d=4&e=5");
        int[] values = {0, 1, -1, Integer.MAX_VALUE, Integer.MIN_VALUE};
        for (int attribute = 0; attribute < 5; attribute++) {
            for (int v : values) {
                due.is("set " + v, desk.set(0, attribute, v), true);
                due.is("get " + v, desk.get(0, attribute), v);
            }
            desk.set(0, attribute, attribute + 1);
        }
        for (int attribute = 0; attribute < 5; attribute++) {
            due.is("each its own", desk.get(0, attribute), attribute + 1);
        }
        due.is("0 .. 4 for a .. e", desk.check(0, 0), 1);
        due.is("no notices of these", desk.listen(63), 1);
    }

    private static void setRefuses() {
        due.by("set: false if there is no such bean or attribute");
        Desk desk = withGap();
        for (int bean : NO_BEANS) {
            due.is("bean " + bean, desk.set(bean, 0, 99), false);
        }
        due.is("a bean that is gone", desk.set(1, 0, 99), false);
        for (int attribute : NO_ATTRIBUTES) {
            due.is("attribute " + attribute, desk.set(0, attribute, 99), false);
            due.is("neither, attribute " + attribute, desk.set(12, attribute, 99), false);
        }
        hasAll(desk);
        due.is("bean 11 is no bean, 2 is", desk.set(2, 4, 99), true);
    }

    private static void unsetMakesMissing() {
        due.by("An attribute of a bean is missing from now on");
        Desk desk = withGap();
        desk.define("c=c");
        due.is("check before", desk.check(0, 0), 1);
        due.is("unset", desk.unset(0, 2), true);
        due.is("get", desk.get(0, 2), 0);
        due.is("check", desk.check(0, 0), 2);
        due.is("its neighbour", desk.get(0, 1), 2);
        due.is("its other neighbour", desk.get(0, 3), 4);
        due.is("another bean's", desk.get(2, 2), 23);
        desk.set(0, 2, 0);
        due.is("0 isn't missing", desk.check(0, 0), 1);
        due.is("0 can be unset", desk.unset(0, 2), true);
    }

    private static void unsetRefuses() {
        due.by("unset: false if there is no such bean or attribute, or it is missing already");
        Desk desk = withGap();
        for (int bean : NO_BEANS) {
            due.is("bean " + bean, desk.unset(bean, 0), false);
        }
        due.is("a bean that is gone", desk.unset(1, 0), false);
        for (int attribute : NO_ATTRIBUTES) {
            due.is("attribute " + attribute, desk.unset(0, attribute), false);
        }
        hasAll(desk);
        due.is("once", desk.unset(0, 4), true);
        due.is("missing already", desk.unset(0, 4), false);
        desk.set(0, 4, 7);
        due.is("after another set", desk.unset(0, 4), true);
    }

    private static void getOfNoneIsZero() {
        due.by("get: 0 if there is no such bean or attribute, or it is missing");
        Desk desk = withGap();
        for (int bean : NO_BEANS) {
            due.is("bean " + bean, desk.get(bean, 0), 0);
        }
        due.is("a bean that is gone", desk.get(1, 0), 0);
        for (int attribute : NO_ATTRIBUTES) {
            due.is("attribute " + attribute, desk.get(0, attribute), 0);
        }
        desk.unset(0, 0);
        due.is("missing", desk.get(0, 0), 0);
    }

    private static void beansAreApart() {
        due.by("ATTRIBUTES a .. e of a bean have an int each");
        Desk desk = new Desk();
        for (int i = 0; i < 12; i++) {
            desk.register("a:a=" + i);
            desk.set(i, i % 5, i + 50);
        }
        for (int i = 0; i < 12; i++) {
            for (int attribute = 0; attribute < 5; attribute++) {
                due.is("get", desk.get(i, attribute), attribute == i % 5 ? i + 50 : 0);
            }
        }
    }
}
