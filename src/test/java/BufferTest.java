import java.util.function.Consumer;
import java.util.function.ToIntFunction;

/** "Terms": BUFFER, and promises 1 and 2: a new object, write. */
public final class BufferTest {
    private static final Due due = new Due();
    private static final String SIXTY = "a:a=1,b=12,c=123,d=1234,e=1,f=12,g=123,h=1234,i=1,j=12,k=123";

    public static void main(String[] args) {
        aNewObjectIsEmpty();
        emptyAtFirst();
        writeAppends();
        writeRefusesOtherCodes();
        writeRefusesTheSixtyFirst();
        aTakenBufferHasRoomForSixtyAgain();
        takenWhateverIsAnswered();
        otherCallsLeaveTheBuffer();
        theLastCallThatIsPromised();
        due.end();
    }

    private static void aNewObjectIsEmpty() {
        due.by("No beans, queries, monitors or notices.");
        Desk desk = new Desk();
        for (int i = -1; i <= 12; i++) {
            due.is("form of bean " + i, desk.form(0, i, -1), BeanServer.NONE);
            due.is("set of bean " + i, desk.set(i, 0, 1), false);
            due.is("form of query " + i, desk.form(1, i, -1), BeanServer.NONE);
            due.is("cancel " + i, desk.cancel(i), false);
            due.is("mark " + i, desk.mark(i), 0);
            due.is("selected " + i, desk.selected(i), BeanServer.NONE);
            due.is("notice " + i, desk.notice(i, 0), BeanServer.NONE);
        }
        due.is("form of the latest pattern", desk.form(2, 0, -1), BeanServer.NONE);
        due.is("its character 0", desk.form(2, 0, 0), BeanServer.NONE);
        due.is("observe", desk.observe(), 0);
        due.is("listen", desk.listen(63), 0);
        due.is("select", desk.select("*:*", -1), 0);
        due.is("the first bean", desk.register("a:a=1"), 0);
        due.is("the first query", desk.define("a=1"), 0);
        due.is("the first monitor", desk.counter(0, 0, 0, 0), 0);
        due.is("the first notice", desk.notice(0), "1 0 0 0");
        due.is("another object", new Desk().find("a:a=1"), BeanServer.NONE);
    }

    private static void emptyAtFirst() {
        due.by("empty at first");
        due.is("register", new Desk().register(), BeanServer.BAD);
        due.is("unregister", new Desk().unregister(), BeanServer.BAD);
        due.is("find", new Desk().find(), BeanServer.BAD);
        due.is("define", new Desk().define(), BeanServer.BAD);
        due.is("select", new Desk().select(-1), BeanServer.BAD);
        due.is("what is written first stands first", new Desk().register("a:a=1"), 0);
    }

    private static void writeAppends() {
        due.by("Appends a character to the buffer");
        Desk desk = new Desk();
        desk.register("ab:c=d,e=f");
        due.is("each behind those before it", desk.form(0, 0), "ab:c=d,e=f");
    }

    private static void writeRefusesOtherCodes() {
        due.by("false if its code isn't 32 .. 126");
        for (int code = 0; code <= Character.MAX_VALUE; code++) {
            due.is("write " + code, new BeanServer().write((char) code), code >= 32 && code <= 126);
        }
        int[] refused = {0, 31, 127, 128, 255, 256 + 'a', Character.MAX_VALUE};
        for (int code : refused) {
            Desk desk = new Desk();
            desk.text("a:a").write(code);
            due.is("register around a refused " + code, desk.register("=1"), 0);
        }
        int[] appended = {32, 126};
        for (int code : appended) {
            Desk desk = new Desk();
            desk.text("a:a").write(code);
            due.is("register around " + code, desk.register("=1"), BeanServer.BAD);
        }
    }

    private static void writeRefusesTheSixtyFirst() {
        due.by("at most 60 characters; false if 60 are there");
        Desk counted = new Desk();
        for (int there = 0; there < 64; there++) {
            due.is("write with " + there + " there", counted.write('x'), there < 60);
        }
        Desk desk = new Desk();
        desk.text(SIXTY);
        due.is("write with 60 there", desk.write('4'), false);
        due.is("a wrong code with 60 there", desk.write(31), false);
        due.is("register of 60 characters", desk.register(), 0);
        due.is("form of 60 characters", desk.form(0, 0), SIXTY);
        due.is("register of 59 characters", desk.register(SIXTY.substring(0, 59)), 1);
        due.is("form of 59 characters", desk.form(0, 1), SIXTY.substring(0, 59));
        Desk last = new Desk();
        due.is("write with 59 there", last.text(SIXTY.substring(0, 59)).write('3'), true);
        due.is("the 60th counts", last.register(), 0);
        due.is("form with the 60th", last.form(0, 0, 59), '3');
    }

    private static void aTakenBufferHasRoomForSixtyAgain() {
        due.by("uses its characters and then makes it empty");
        Desk desk = new Desk();
        due.is("register", desk.register(SIXTY), 0);
        due.is("find", desk.find(SIXTY), 0);
        for (int i = 0; i < 60; i++) {
            due.is("write " + i, desk.write('x'), true);
        }
        due.is("write with 60 there", desk.write('x'), false);
        due.is("BAD with 60", desk.define(), BeanServer.BAD);
        due.is("unregister", desk.unregister(SIXTY), 0);
    }

    /** A taking call on a server where all is full, with its answer: then the buffer is empty. */
    private static void takes(String text, ToIntFunction<Desk> call, int answer) {
        Desk desk = Scenes.full();
        due.is("the call after " + text, call.applyAsInt(desk.text(text)), answer);
        due.is("find a name behind what is left of " + text, desk.find("f:n=11"), 11);
    }

    private static void takenWhateverIsAnswered() {
        due.by("A call that TAKES the buffer .. makes it empty, whatever it answers");
        takes("f:n=0", Desk::find, 0);
        takes("f:n=x", Desk::find, BeanServer.NONE);
        takes("f:n", Desk::find, BeanServer.BAD);
        takes("f:*", Desk::find, BeanServer.BAD);
        takes("f:n=0", Desk::unregister, 0);
        takes("f:n=x", Desk::unregister, BeanServer.NONE);
        takes("f:n", Desk::unregister, BeanServer.BAD);
        takes("f:*", Desk::unregister, BeanServer.BAD);
        takes("f:n=0", Desk::register, BeanServer.EXISTS);
        takes("f:n=x", Desk::register, BeanServer.FULL);
        takes("f:n", Desk::register, BeanServer.BAD);
        takes("f:*", Desk::register, BeanServer.BAD);
        takes("a=1", Desk::define, BeanServer.FULL);
        takes("!!!!!!!!!a=1", Desk::define, BeanServer.FULL);
        takes("a", Desk::define, BeanServer.BAD);
        takes("f:*", desk -> desk.select(-1), 12);
        takes("f:*", desk -> desk.select(0), 12);
        takes("g:*", desk -> desk.select(-1), 0);
        takes("f:*", desk -> desk.select(6), BeanServer.NONE);
        takes("f:", desk -> desk.select(-2), BeanServer.NONE);
        takes("f:", desk -> desk.select(-1), BeanServer.BAD);
        Desk desk = new Desk();
        due.is("register", desk.register("a:a=1"), 0);
        due.is("register what is left", desk.register(), BeanServer.BAD);
        due.is("define", desk.define("a=1"), 0);
        due.is("define what is left", desk.define(), BeanServer.BAD);
    }

    private static void leaves(String call, Consumer<Desk> made) {
        Desk desk = Scenes.sparse();
        desk.text("s:n");
        made.accept(desk);
        due.is("find around " + call, desk.find("=2"), 2);
    }

    private static void otherCallsLeaveTheBuffer() {
        due.by("A call that TAKES the buffer: no other call does");
        leaves("a refused write", desk -> desk.write(31));
        leaves("set", desk -> desk.set(0, 0, 1));
        leaves("unset", desk -> desk.unset(0, 0));
        leaves("get", desk -> desk.get(0, 0));
        leaves("check", desk -> desk.check(0, 0));
        leaves("selected", desk -> desk.selected(0));
        leaves("form of a name", desk -> desk.form(0, 0, 0));
        leaves("form of a query", desk -> desk.form(1, 0, 0));
        leaves("form of a pattern", desk -> desk.form(2, 0, 0));
        leaves("counter", desk -> desk.counter(0, 0, 0, 0));
        leaves("gauge", desk -> desk.gauge(0, 0, 0, 1));
        leaves("cancel", desk -> desk.cancel(0));
        leaves("observe", Desk::observe);
        leaves("mark", desk -> desk.mark(0));
        leaves("listen", desk -> desk.listen(0));
        leaves("notice", desk -> desk.notice(0, 0));
        leaves("a refused set", desk -> desk.set(12, 0, 1));
        leaves("a refused unset", desk -> desk.unset(0, 5));
        leaves("a check of none", desk -> desk.check(6, 0));
        leaves("a counter that is BAD", desk -> desk.counter(0, 5, 0, 0));
        leaves("a gauge for no bean", desk -> desk.gauge(12, 0, 0, 1));
        leaves("a refused cancel", desk -> desk.cancel(6));
    }

    private static void theLastCallThatIsPromised() {
        due.by("An object is used for at most 512 calls");
        Desk desk = new Desk();
        desk.register("a:a=1");
        desk.gauge(0, 0, 0, 1);
        for (int i = 0; i < 252; i++) {
            desk.set(0, 0, i % 2);
            desk.observe();
        }
        due.is("the 512th call", desk.listen(63), 253);
    }
}
