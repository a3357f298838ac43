import java.util.function.Function;
import java.util.function.Supplier;
import java.util.function.ToLongFunction;

/** "Terms": "a call that answers a number below 0, or false, changes nothing else", and the order of the codes. */
public final class RefusalsTest {
    private static final Due due = new Due();
    private static final int BAD = BeanServer.BAD;
    private static final int NONE = BeanServer.NONE;
    private static final int EXISTS = BeanServer.EXISTS;
    private static final int FULL = BeanServer.FULL;

    private static final Supplier<Desk> FULL_SCENE = Scenes::full;
    private static final Supplier<Desk> SPARSE_SCENE = Scenes::sparse;

    public static void main(String[] args) {
        write();
        register();
        unregister();
        find();
        set();
        unset();
        define();
        select();
        counter();
        gauge();
        cancel();
        askingChangesNothing();
        due.end();
    }

    private static void changesNothing(Supplier<Desk> scene, String call, ToLongFunction<Desk> made, long answer) {
        for (Function<Desk, String> look : Scenes.LOOKS) {
            Desk desk = scene.get();
            due.is(call, made.applyAsLong(desk), answer);
            due.is("what is seen after " + call, look.apply(desk), look.apply(scene.get()));
        }
    }

    private static void changesNothing(String call, ToLongFunction<Desk> made, long answer) {
        changesNothing(FULL_SCENE, call, made, answer);
        changesNothing(SPARSE_SCENE, call, made, answer);
    }

    private static long number(boolean answer) {
        return answer ? 1 : 0;
    }

    private static void write() {
        due.by("write: false if its code isn't 32 .. 126 or 60 are there");
        changesNothing("write 31", desk -> number(desk.write(31)), 0);
        changesNothing("write 127", desk -> number(desk.write(127)), 0);
        changesNothing("the 61st write", desk -> {
            desk.text("x".repeat(60));
            long answer = number(desk.write('x'));
            desk.find();
            return answer;
        }, 0);
    }

    private static void register() {
        due.by("register: BAD: it is no name");
        changesNothing("register nothing", desk -> desk.register(), BAD);
        changesNothing("register a:", desk -> desk.register("a:"), BAD);
        changesNothing("register a pattern", desk -> desk.register("f:*"), BAD);
        due.by("register: EXISTS: a bean has the same name");
        changesNothing(FULL_SCENE, "register f:n=0", desk -> desk.register("f:n=0"), EXISTS);
        changesNothing(FULL_SCENE, "register f:n=11", desk -> desk.register("f:n=11"), EXISTS);
        changesNothing(SPARSE_SCENE, "register s:n=3", desk -> desk.register("s:n=3"), EXISTS);
        due.by("register: FULL: 12 beans are there");
        changesNothing(FULL_SCENE, "register f:n=12", desk -> desk.register("f:n=12"), FULL);
        due.by("register: BAD, then EXISTS, then FULL");
        changesNothing(FULL_SCENE, "BAD where FULL", desk -> desk.register("f:n=0,n=1"), BAD);
        changesNothing(FULL_SCENE, "EXISTS where FULL", desk -> desk.register("f:n=5"), EXISTS);
    }

    private static void unregister() {
        due.by("unregister: BAD: it is no name");
        changesNothing("unregister nothing", desk -> desk.unregister(), BAD);
        changesNothing("unregister a pattern that a bean fits", desk -> desk.unregister("?:n=0"), BAD);
        due.by("unregister: NONE: no bean has it");
        changesNothing("unregister what never was", desk -> desk.unregister("x:n=0"), NONE);
        changesNothing(SPARSE_SCENE, "unregister what is gone", desk -> desk.unregister("s:n=1"), NONE);
    }

    private static void find() {
        due.by("find: BAD: it is no name");
        changesNothing("find nothing", desk -> desk.find(), BAD);
        changesNothing("find a pattern that a bean fits", desk -> desk.find("?:n=0"), BAD);
        due.by("find: NONE: no bean has it");
        changesNothing("find what never was", desk -> desk.find("x:n=0"), NONE);
        changesNothing(SPARSE_SCENE, "find what is gone", desk -> desk.find("s:n=1"), NONE);
    }

    private static void set() {
        due.by("set: false if there is no such bean or attribute");
        changesNothing("set of bean -1", desk -> number(desk.set(-1, 0, 99)), 0);
        changesNothing("set of bean 12", desk -> number(desk.set(12, 0, 99)), 0);
        changesNothing(SPARSE_SCENE, "set of bean 1", desk -> number(desk.set(1, 0, 99)), 0);
        changesNothing(SPARSE_SCENE, "set of bean 4", desk -> number(desk.set(4, 0, 99)), 0);
        changesNothing("set of attribute -1", desk -> number(desk.set(2, -1, 99)), 0);
        changesNothing("set of attribute 5", desk -> number(desk.set(2, 5, 99)), 0);
    }

    private static void unset() {
        due.by("unset: false if there is no such bean or attribute, or it is missing already");
        changesNothing("unset of bean -1", desk -> number(desk.unset(-1, 0)), 0);
        changesNothing("unset of bean 12", desk -> number(desk.unset(12, 0)), 0);
        changesNothing(SPARSE_SCENE, "unset of bean 1", desk -> number(desk.unset(1, 1)), 0);
        changesNothing("unset of attribute -1", desk -> number(desk.unset(2, -1)), 0);
        changesNothing("unset of attribute 5", desk -> number(desk.unset(2, 5)), 0);
        changesNothing("unset of a missing attribute", desk -> number(desk.unset(2, 3)), 0);
    }

    private static void define() {
        due.by("define: FULL: the buffer has more than 8 characters that are ( or !");
        changesNothing("define 9 of !", desk -> desk.define("!!!!!!!!!a=1"), FULL);
        changesNothing("define 9 of (", desk -> desk.define("(((((((((a=1)))))))))"), FULL);
        due.by("define: BAD: it is no query");
        changesNothing("define nothing", desk -> desk.define(), BAD);
        changesNothing("define a=", desk -> desk.define("a="), BAD);
        due.by("define: FULL: 6 queries are there");
        changesNothing(FULL_SCENE, "define a 7th", desk -> desk.define("a=1"), FULL);
        due.by("define: FULL for ( and !, then BAD, then FULL");
        changesNothing("9 of ( and no query", desk -> desk.define("((((((((("), FULL);
        changesNothing(FULL_SCENE, "no 7th query", desk -> desk.define("a=1&"), BAD);
    }

    private static void select() {
        due.by("select: NONE: query isn't -1 and there is no such query");
        changesNothing("select by query -2", desk -> desk.select("*:*", -2), NONE);
        changesNothing("select by query 6", desk -> desk.select("*:*", 6), NONE);
        changesNothing(SPARSE_SCENE, "select by query 3", desk -> desk.select("*:*", 3), NONE);
        due.by("select: BAD: it is no pattern");
        changesNothing("select by nothing", desk -> desk.select(-1), BAD);
        changesNothing("select by * alone", desk -> desk.select("*", -1), BAD);
        changesNothing("select by * alone and a query", desk -> desk.select("*", 0), BAD);
        due.by("select: NONE, then BAD");
        changesNothing("no query and no pattern", desk -> desk.select("*", 6), NONE);
        changesNothing("query -2 and no pattern", desk -> desk.select(-2), NONE);
    }

    private static void counter() {
        due.by("counter: BAD: attribute isn't 0 .. 4 or step is below 0");
        changesNothing("attribute -1", desk -> desk.counter(0, -1, 0, 1), BAD);
        changesNothing("attribute 5", desk -> desk.counter(0, 5, 0, 1), BAD);
        changesNothing("step -1", desk -> desk.counter(0, 0, 0, -1), BAD);
        due.by("counter: NONE: there is no such bean");
        changesNothing("bean -1", desk -> desk.counter(-1, 0, 0, 1), NONE);
        changesNothing("bean 12", desk -> desk.counter(12, 0, 0, 1), NONE);
        changesNothing(SPARSE_SCENE, "a bean that is gone", desk -> desk.counter(1, 0, 0, 1), NONE);
        due.by("counter: FULL: 6 monitors are there");
        changesNothing(FULL_SCENE, "a 7th", desk -> desk.counter(0, 0, 0, 1), FULL);
        due.by("counter: BAD, then NONE, then FULL");
        changesNothing("BAD before NONE", desk -> desk.counter(12, 5, 0, 1), BAD);
        changesNothing("BAD before NONE, by step", desk -> desk.counter(12, 0, 0, -1), BAD);
        changesNothing(FULL_SCENE, "BAD before FULL", desk -> desk.counter(0, 0, 0, -1), BAD);
        changesNothing(FULL_SCENE, "NONE before FULL", desk -> desk.counter(12, 0, 0, 1), NONE);
    }

    private static void gauge() {
        due.by("gauge: BAD: attribute isn't 0 .. 4 or low isn't less than high");
        changesNothing("attribute -1", desk -> desk.gauge(0, -1, 0, 1), BAD);
        changesNothing("attribute 5", desk -> desk.gauge(0, 5, 0, 1), BAD);
        changesNothing("low is high", desk -> desk.gauge(0, 0, 1, 1), BAD);
        changesNothing("low above high", desk -> desk.gauge(0, 0, 2, 1), BAD);
        due.by("gauge: NONE: there is no such bean");
        changesNothing("bean -1", desk -> desk.gauge(-1, 0, 0, 1), NONE);
        changesNothing("bean 12", desk -> desk.gauge(12, 0, 0, 1), NONE);
        changesNothing(SPARSE_SCENE, "a bean that is gone", desk -> desk.gauge(1, 0, 0, 1), NONE);
        due.by("gauge: FULL: 6 monitors are there");
        changesNothing(FULL_SCENE, "a 7th", desk -> desk.gauge(0, 0, 0, 1), FULL);
        due.by("gauge: BAD, then NONE, then FULL");
        changesNothing("BAD before NONE", desk -> desk.gauge(12, 5, 0, 1), BAD);
        changesNothing("BAD before NONE, by bounds", desk -> desk.gauge(12, 0, 1, 1), BAD);
        changesNothing(FULL_SCENE, "BAD before FULL", desk -> desk.gauge(0, 0, 1, 1), BAD);
        changesNothing(FULL_SCENE, "NONE before FULL", desk -> desk.gauge(12, 0, 0, 1), NONE);
    }

    private static void cancel() {
        due.by("cancel: false if there is none");
        changesNothing("cancel -1", desk -> number(desk.cancel(-1)), 0);
        changesNothing("cancel 6", desk -> number(desk.cancel(6)), 0);
        changesNothing(SPARSE_SCENE, "cancel a cancelled one", desk -> number(desk.cancel(1)), 0);
        changesNothing(SPARSE_SCENE, "cancel 4", desk -> number(desk.cancel(4)), 0);
    }

    private static void askingChangesNothing() {
        due.by("Nothing is promised beyond the answers and state changes described");
        changesNothing(FULL_SCENE, "find", desk -> desk.find("f:n=7"), 7);
        changesNothing(FULL_SCENE, "get", desk -> desk.get(2, 2), 17);
        changesNothing("get of a missing attribute", desk -> desk.get(2, 3), 0);
        changesNothing("get of bean 12", desk -> desk.get(12, 0), 0);
        changesNothing("check that is true", desk -> desk.check(0, 2), 1);
        changesNothing("check that fails", desk -> desk.check(1, 2), 2);
        changesNothing("check of query 6", desk -> desk.check(6, 0), NONE);
        changesNothing("check for bean 12", desk -> desk.check(0, 12), NONE);
        changesNothing(FULL_SCENE, "selected", desk -> desk.selected(0), 1);
        changesNothing("selected that is none", desk -> desk.selected(12), NONE);
        changesNothing(FULL_SCENE, "form", desk -> desk.form(0, 10, -1), 6);
        changesNothing("form of none", desk -> desk.form(3, 0, 0), NONE);
        changesNothing("mark", desk -> desk.mark(0), 25);
        changesNothing("mark of none", desk -> desk.mark(6), 0);
        changesNothing("notice that is none", desk -> desk.notice(16, 0), NONE);
        changesNothing(FULL_SCENE, "notice", desk -> desk.notice(0, 3), 17);
    }
}
