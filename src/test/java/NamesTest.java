/** Promises 1 to 5 and, for names, 13: a new object, write, register, unregister, find. */
public final class NamesTest {
    private static final Due due = new Due();

    public static void main(String[] args) {
        newObject();
        writeTakesPrintableCharacters();
        writeTakesSixty();
        takingEmptiesTheBuffer();
        registerNumbersBeans();
        registerRefusesWhatIsNoName();
        registerRefusesTheSameName();
        registerTakesTwelve();
        registerCodesInOrder();
        unregisterFreesNumberAndAttributes();
        findByForm();
        formOfNames();
        due.end();
    }

    private static void newObject() {
        BeanServer x = new BeanServer();
        for (int i = -1; i < 13; i++) {
            due.is("new: form of bean " + i, x.form(0, i, -1), BeanServer.NONE);
            due.is("new: form of query " + i, x.form(1, i, -1), BeanServer.NONE);
            due.is("new: set " + i, x.set(i, 0, 1), false);
            due.is("new: cancel " + i, x.cancel(i), false);
            due.is("new: notice " + i, x.notice(i, 0), BeanServer.NONE);
            due.is("new: selected " + i, x.selected(i), BeanServer.NONE);
        }
        due.is("new: form of pattern", x.form(2, 0, -1), BeanServer.NONE);
        due.is("new: observe", x.observe(), 0);
        due.is("new: listen", x.listen(63), 0);
        due.is("new: find with an empty buffer", x.find(), BeanServer.BAD);
    }

    private static void writeTakesPrintableCharacters() {
        for (int code = 0; code <= Character.MAX_VALUE; code++) {
            BeanServer x = new BeanServer();
            char c = (char) code;
            due.is("write " + (int) c, x.write(c), c >= 32 && c <= 126);
        }
        Desk desk = new Desk();
        desk.server.write((char) 31);
        desk.server.write((char) 127);
        desk.server.write('é');
        due.is("refused characters stay out", desk.register("a:a=a"), 0);
    }

    private static void writeTakesSixty() {
        Desk desk = new Desk();
        desk.text("a:a=1,b=12,c=123,d=1234,e=1,f=12,g=123,h=1234,i=1,j=12,k=123");
        due.is("61st write", desk.server.write('4'), false);
        due.is("register of 60 characters", desk.server.register(), 0);
        due.is("form of 60 characters", desk.server.form(0, 0, -1), 60);
        due.is("its last character", desk.server.form(0, 0, 59), '3');
        due.is("write after that", desk.server.write('4'), true);
    }

    private static void takingEmptiesTheBuffer() {
        Desk desk = new Desk();
        due.is("register a bad name", desk.register("a"), BeanServer.BAD);
        due.is("register after a bad name", desk.register("a:a=a"), 0);
        due.is("register again", desk.register("a:a=a"), BeanServer.EXISTS);
        due.is("find after EXISTS", desk.find("a:a=a"), 0);
        due.is("find after find", desk.find("a:a=a"), 0);
        due.is("find none", desk.find("b:a=a"), BeanServer.NONE);
        due.is("unregister none", desk.unregister("c:a=a"), BeanServer.NONE);
        due.is("unregister bad", desk.unregister("c:"), BeanServer.BAD);
        due.is("unregister", desk.unregister("a:a=a"), 0);
        due.is("register with an empty buffer", desk.server.register(), BeanServer.BAD);
        due.is("unregister with an empty buffer", desk.server.unregister(), BeanServer.BAD);
        desk.text("a:a").server.get(0, 0);
        due.is("other calls leave the buffer", desk.register("=a"), 0);
    }

    private static void registerNumbersBeans() {
        Desk desk = new Desk();
        due.is("first", desk.register("a:a=a"), 0);
        due.is("second", desk.register("b:a=a"), 1);
        due.is("third", desk.register("c:a=a"), 2);
        due.is("the second goes", desk.unregister("b:a=a"), 1);
        due.is("the first goes", desk.unregister("a:a=a"), 0);
        due.is("lowest free number", desk.register("d:a=a"), 0);
        due.is("next free number", desk.register("e:a=a"), 1);
        due.is("then a new one", desk.register("f:a=a"), 3);
        due.is("REGISTERED", desk.notice(0), "8 0 3 0");
        due.is("GONE", desk.notice(3), "5 1 0 0");
    }

    private static void registerRefusesWhatIsNoName() {
        String[] bad = {"", ":", "a", "a:", ":a=b", "a:a", "a:a=", "a:=b", "a:a=b,", "a:,a=b", "a:a=b,,c=d",
            "a:a=b,c", "abcdefg:a=b", "a:a=bcdef", "a:ab=c", "a:A=b", "A:a=b", "a:a=B", "a:1=b", "a:a=b,a=c",
            "a:a=b,c=d,a=b", "a a:a=b", "a:a=b c", " a:a=b", "a:a=b ", "a:a=b:c", "a::a=b", "a:a==b", "a:a=b=c",
            "a?:a=b", "a*:a=b", "a:a=?", "a:a=*", "a:*", "a:a=b,*", "*:a=b", "?:a=b", "?:*", "a:a=b;c=d", "a:{=b", "a:`=b",
            "a:a=`", "a:a={", "a:a=/", "a:a=:", "`:a=b", "{:a=b", "/:a=b", ";:a=b", "a:?=b"};
        for (String name : bad) {
            Desk desk = new Desk();
            due.is("register " + name, desk.register(name), BeanServer.BAD);
            due.is("find " + name, desk.find(name), BeanServer.BAD);
            due.is("unregister " + name, desk.unregister(name), BeanServer.BAD);
            due.is("no notice of " + name, desk.server.listen(63), 0);
        }
        String[] good = {"a:a=b", "abcdef:a=b", "012345:z=9", "z9:a=bcde", "a:a=b,c=d", "a:z=z,y=y,x=x,w=w",
            "0:a=0", "z:z=zzzz"};
        for (String name : good) {
            Desk desk = new Desk();
            due.is("register " + name, desk.register(name), 0);
            due.is("find " + name, desk.find(name), 0);
            due.is("unregister " + name, desk.unregister(name), 0);
        }
    }

    private static void registerRefusesTheSameName() {
        Desk desk = new Desk();
        desk.register("a:b=1,a=2,c=3");
        String[] same = {"a:a=2,b=1,c=3", "a:a=2,c=3,b=1", "a:b=1,a=2,c=3", "a:b=1,c=3,a=2", "a:c=3,a=2,b=1", "a:c=3,b=1,a=2"};
        for (String name : same) {
            due.is("register " + name, desk.register(name), BeanServer.EXISTS);
        }
        due.is("no notices of these", desk.server.listen(63), 1);
        String[] others = {"b:a=2,b=1,c=3", "a:a=1,b=2,c=3", "a:a=2,b=1", "a:a=2,b=1,c=3,d=4", "a:a=2,b=1,c=33"};
        for (int i = 0; i < others.length; i++) {
            due.is("register " + others[i], desk.register(others[i]), i + 1);
        }
    }

    private static void registerTakesTwelve() {
        Desk desk = new Desk();
        for (int i = 0; i < 12; i++) {
            due.is("register " + i, desk.register("a:a=" + i), i);
        }
        due.is("the 13th", desk.register("a:a=12"), BeanServer.FULL);
        due.is("no notice of it", desk.server.listen(63), 12);
        due.is("it isn't there", desk.find("a:a=12"), BeanServer.NONE);
        due.is("one goes", desk.unregister("a:a=11"), 11);
        due.is("now there is room", desk.register("a:a=12"), 11);
    }

    private static void registerCodesInOrder() {
        Desk desk = new Desk();
        for (int i = 0; i < 12; i++) {
            desk.register("a:a=" + i);
        }
        due.is("BAD before FULL", desk.register("a:a"), BeanServer.BAD);
        due.is("EXISTS before FULL", desk.register("a:a=3"), BeanServer.EXISTS);
    }

    private static void unregisterFreesNumberAndAttributes() {
        Desk desk = new Desk();
        desk.register("a:a=1");
        desk.server.set(0, 2, 7);
        due.is("unregister", desk.unregister("a:a=1"), 0);
        due.is("get when gone", desk.server.get(0, 2), 0);
        due.is("set when gone", desk.server.set(0, 2, 1), false);
        due.is("form when gone", desk.form(0, 0), "none");
        due.is("unregister again", desk.unregister("a:a=1"), BeanServer.NONE);
        due.is("notices", desk.server.listen(63), 2);
        due.is("register again", desk.register("a:a=1"), 0);
        due.is("the attribute is missing", desk.server.unset(0, 2), false);
    }

    private static void findByForm() {
        Desk desk = new Desk();
        desk.register("a:a=1");
        desk.register("b:y=1,x=2");
        due.is("find", desk.find("b:x=2,y=1"), 1);
        due.is("find", desk.find("b:y=1,x=2"), 1);
        due.is("find the first", desk.find("a:a=1"), 0);
        due.is("a part isn't the name", desk.find("b:x=2"), BeanServer.NONE);
        due.is("the domain counts", desk.find("a:x=2,y=1"), BeanServer.NONE);
        due.is("find gives no notice", desk.server.listen(63), 2);
    }

    private static void formOfNames() {
        Desk desk = new Desk();
        desk.register("dom:z=1,a=22,m=333,b=4444");
        due.is("form", desk.form(0, 0), "dom:a=22,b=4444,m=333,z=1");
        due.is("length", desk.server.form(0, 0, -1), 25);
        due.is("last character", desk.server.form(0, 0, 24), '1');
        due.is("behind the last", desk.server.form(0, 0, 25), BeanServer.NONE);
        due.is("k -2", desk.server.form(0, 0, -2), BeanServer.NONE);
        due.is("least k", desk.server.form(0, 0, Integer.MIN_VALUE), BeanServer.NONE);
        due.is("greatest k", desk.server.form(0, 0, Integer.MAX_VALUE), BeanServer.NONE);
        due.is("no bean 1", desk.server.form(0, 1, 0), BeanServer.NONE);
        due.is("no bean 12", desk.server.form(0, 12, -1), BeanServer.NONE);
        due.is("no bean -1", desk.server.form(0, -1, -1), BeanServer.NONE);
        due.is("what -1", desk.server.form(-1, 0, -1), BeanServer.NONE);
        due.is("what 3", desk.server.form(3, 0, -1), BeanServer.NONE);
    }
}
