/** Promises 9, 10 and, for queries, 13: define, check, form. */
public final class QueriesTest {
    private static final Due due = new Due();

    public static void main(String[] args) {
        defineNumbersQueries();
        defineRefusesWhatIsNoQuery();
        defineRefusesTooManyNestings();
        defineCodesInOrder();
        checkNumbers();
        relations();
        arithmetic();
        failing();
        joining();
        checkLooksAtTheBeanAsItIs();
        formOfNumbers();
        formOfParentheses();
        due.end();
    }

    private static void defineNumbersQueries() {
        Desk desk = new Desk();
        for (int i = 0; i < 6; i++) {
            due.is("define " + i, desk.define("a=" + i), i);
        }
        due.is("the 7th", desk.define("a=6"), BeanServer.FULL);
        due.is("the 7th again, the buffer is empty", desk.server.define(), BeanServer.BAD);
        for (int i = 0; i < 6; i++) {
            due.is("form " + i, desk.form(1, i), "a=" + i);
        }
        due.is("no notices", desk.server.listen(63), 0);
    }

    private static void defineRefusesWhatIsNoQuery() {
        String[] bad = {"", "a", "1", "a=", "=a", "a==1", "a=1=2", "a=12345", "12345=a", "00001=a", "a=1&", "&a=1",
            "a=1|", "|a=1", "a=1&&b=1", "a=1||b=1", "a=1&|b=1", "!", "!a", "(a)=1", "(a+1)=2", "a=(1)", "a=1)", "(a=1",
            "((a=1)", "(a=1))", "()", "()a=1", "a=1()", "(a=1)(b=1)", "a=1b=1", "a=1!b=1", "a!b", "a!=b", "a<=b",
            "a=-1", "a=+1", "-a=1", "a=1+", "a=1*", "a=*1", "a+=1", "a=1++2", "a=1+-2", "a=f", "f=1", "A=1", "a=B",
            "aa=1", "a1=1", "1a=1", "a = 1", " a=1", "a=1 ", "a=1.5", "a~1", "a=1,b=1", "a:a=1", "a=1&!", "a=1|(",
            "a=1&b", "a=1|2", "!(a=1", "!)a=1(", "a%2=1", "a=1/", "a=`", "/a=1", "a=:", "a=1!", "1", "a+b"};
        for (String query : bad) {
            Desk desk = new Desk();
            due.is("define " + query, desk.define(query), BeanServer.BAD);
            due.is("none is there of " + query, desk.form(1, 0), "none");
            due.is("define after " + query, desk.define("a=1"), 0);
        }
        String[] good = {"a=1", "1=a", "1=1", "e#e", "a<b", "a>b", "9999=0000", "!a=1", "!!a=1", "(a=1)", "((a=1))",
            "!(a=1)", "(!a=1)", "a=1&b=1", "a=1|b=1", "a+b-c*d/e=1+2-3*4/5", "a=1&(b=1|c=1)&!(d=1)"};
        for (String query : good) {
            due.is("define " + query, new Desk().define(query), 0);
        }
        due.is("60 characters", new Desk().define("a=1|".repeat(14) + "a=11"), 0);
    }

    private static void defineRefusesTooManyNestings() {
        due.is("8 of !", new Desk().define("!!!!!!!!a=1"), 0);
        due.is("9 of !", new Desk().define("!!!!!!!!!a=1"), BeanServer.FULL);
        due.is("8 of (", new Desk().define("((((((((a=1))))))))"), 0);
        due.is("9 of (", new Desk().define("(((((((((a=1)))))))))"), BeanServer.FULL);
        due.is("8 of both", new Desk().define("!(!(!(!(a=1))))"), 0);
        due.is("9 of both", new Desk().define("!(!(!(!(!a=1))))"), BeanServer.FULL);
        due.is("side by side they count too", new Desk().define("!a=1|!a=1|!a=1|!a=1|!a=1|!a=1|!a=1|!a=1|!a=1"),
            BeanServer.FULL);
        due.is("8 side by side", new Desk().define("!a=1|!a=1|!a=1|!a=1|!a=1|!a=1|!a=1|(a=1)"), 0);
        due.is("60 of (", new Desk().define("(".repeat(60)), BeanServer.FULL);
        due.is("60 of )", new Desk().define(")".repeat(60)), BeanServer.BAD);
    }

    private static void defineCodesInOrder() {
        Desk desk = new Desk();
        for (int i = 0; i < 6; i++) {
            desk.define("a=1");
        }
        due.is("BAD before FULL", desk.define("a=1&"), BeanServer.BAD);
        due.is("too many nestings before BAD", desk.define("!!!!!!!!!"), BeanServer.FULL);
        due.is("too many before BAD in an object with room", new Desk().define("((((((((("), BeanServer.FULL);
    }

    private static void checkNumbers() {
        Desk desk = new Desk();
        desk.register("a:a=1");
        desk.define("1=1");
        due.is("check", desk.server.check(0, 0), 1);
        int[] noQueries = {-1, 1, 5, 6, Integer.MIN_VALUE, Integer.MAX_VALUE};
        for (int query : noQueries) {
            due.is("check of query " + query, desk.server.check(query, 0), BeanServer.NONE);
        }
        int[] noBeans = {-1, 1, 11, 12, Integer.MIN_VALUE, Integer.MAX_VALUE};
        for (int bean : noBeans) {
            due.is("check for bean " + bean, desk.server.check(0, bean), BeanServer.NONE);
        }
    }

    /** What a query answers for a bean with these values of a, b, c; d and e are missing. */
    private static void holds(String query, int a, int b, int c, int answer) {
        Desk desk = new Desk();
        desk.register("a:a=1");
        desk.server.set(0, 0, a);
        desk.server.set(0, 1, b);
        desk.server.set(0, 2, c);
        due.is("define " + query, desk.define(query), 0);
        due.is(query + " for " + a + " " + b + " " + c, desk.server.check(0, 0), answer);
    }

    private static void relations() {
        int[][] pairs = {{1, 2}, {2, 2}, {3, 2}, {-1, 1}, {Integer.MIN_VALUE, Integer.MAX_VALUE}};
        for (int[] pair : pairs) {
            int a = pair[0];
            int b = pair[1];
            holds("a=b", a, b, 0, a == b ? 1 : 0);
            holds("a<b", a, b, 0, a < b ? 1 : 0);
            holds("a>b", a, b, 0, a > b ? 1 : 0);
            holds("a#b", a, b, 0, a != b ? 1 : 0);
        }
        holds("0>a", Integer.MIN_VALUE, 0, 0, 1);
    }

    private static void arithmetic() {
        holds("a-b-c=5", 10, 3, 2, 1);
        holds("a-b+c=9", 10, 3, 2, 1);
        holds("a/b/c=5", 100, 10, 2, 1);
        holds("a/b*c=30", 100, 10, 3, 1);
        holds("a*b/c=15", 5, 9, 3, 1);
        holds("a+b*c=14", 2, 4, 3, 1);
        holds("a*b+c=11", 2, 4, 3, 1);
        holds("a-b*c=2-1*12", 2, 4, 3, 1);
        holds("a/b=c", 7, 2, 3, 1);
        holds("a/b=c", -7, 2, -3, 1);
        holds("a/b=c", 7, -2, -3, 1);
        holds("a+b=c", Integer.MAX_VALUE, 1, Integer.MIN_VALUE, 1);
        holds("a-b=c", Integer.MIN_VALUE, 1, Integer.MAX_VALUE, 1);
        holds("a*b=c", 65536, 65536, 0, 1);
        holds("a/b=c", Integer.MIN_VALUE, -1, Integer.MIN_VALUE, 1);
        holds("a=9999", 9999, 0, 0, 1);
        holds("a=0012", 12, 0, 0, 1);
    }

    private static void failing() {
        holds("d=1", 0, 0, 0, 2);
        holds("1=e", 0, 0, 0, 2);
        holds("a/0=0", 1, 0, 0, 2);
        holds("a/b=0", 1, 0, 0, 2);
        holds("1=a/b", 1, 0, 0, 2);
        holds("b/a=0", 1, 0, 0, 1);
        holds("0*d=0", 0, 0, 0, 2);
        holds("!d=1", 0, 0, 0, 2);
        holds("!!d=1", 0, 0, 0, 2);
        holds("(d=1)", 0, 0, 0, 2);
        holds("1+a/b*0=0", 1, 0, 0, 2);
        holds("d=1|a=1", 1, 0, 0, 2);
        holds("d=1&a=2", 1, 0, 0, 2);
        holds("a=1|d=1", 1, 0, 0, 1);
        holds("a=2|d=1", 1, 0, 0, 2);
        holds("a=1&d=1", 1, 0, 0, 2);
        holds("a=2&d=1", 1, 0, 0, 0);
        holds("a=2&d=1|a=1", 1, 0, 0, 1);
        holds("a=1&d=1|a=1", 1, 0, 0, 2);
        holds("a=1|d=1|e=1", 1, 0, 0, 1);
        holds("a=2|a=1|e=1", 1, 0, 0, 1);
        holds("a=2|d=1|a=1", 1, 0, 0, 2);
        holds("a=1&a=2&d=1", 1, 0, 0, 0);
        holds("a=1&d=1&a=2", 1, 0, 0, 2);
        holds("(d=1|a=1)&a=1", 1, 0, 0, 2);
        holds("a=2&(d=1|a=1)|!d=1&a=1", 1, 0, 0, 2);
        holds("b#0&a/b=1", 1, 0, 0, 0);
        holds("b=0|a/b=1", 1, 0, 0, 1);
        holds("d=1|1=1", 1, 0, 0, 2);
    }

    private static void joining() {
        for (int bits = 0; bits < 8; bits++) {
            int a = bits & 1;
            int b = bits >> 1 & 1;
            int c = bits >> 2 & 1;
            holds("a=1|b=1&c=1", a, b, c, a | b & c);
            holds("a=1&b=1|c=1", a, b, c, a & b | c);
            holds("(a=1|b=1)&c=1", a, b, c, (a | b) & c);
            holds("a=1&(b=1|c=1)", a, b, c, a & (b | c));
            holds("!a=1&b=1", a, b, c, 1 - a & b);
            holds("!a=1|b=1", a, b, c, 1 - a | b);
            holds("!(a=1&b=1)", a, b, c, 1 - (a & b));
            holds("!(a=1|b=1)&c=1", a, b, c, 1 - (a | b) & c);
            holds("!!(a=1|b=1)", a, b, c, a | b);
            holds("a=1|b=1|c=1", a, b, c, a | b | c);
            holds("a=1&b=1&c=1", a, b, c, a & b & c);
            holds("!(!(a=1&b=1)|!c=1)", a, b, c, a & b & c);
        }
    }

    private static void checkLooksAtTheBeanAsItIs() {
        Desk desk = new Desk();
        desk.register("a:a=1");
        desk.register("b:a=1");
        desk.define("a=b|e=1");
        due.is("missing", desk.server.check(0, 0), 2);
        desk.server.set(0, 0, 3);
        desk.server.set(0, 1, 3);
        due.is("set", desk.server.check(0, 0), 1);
        due.is("another bean", desk.server.check(0, 1), 2);
        desk.server.set(0, 1, 4);
        desk.server.set(0, 4, 2);
        due.is("changed", desk.server.check(0, 0), 0);
        desk.server.unset(0, 4);
        due.is("unset", desk.server.check(0, 0), 2);
        desk.unregister("a:a=1");
        due.is("gone", desk.server.check(0, 0), BeanServer.NONE);
    }

    private static void hasForm(String query, String form) {
        Desk desk = new Desk();
        due.is("define " + query, desk.define(query), 0);
        due.is("form of " + query, desk.form(1, 0), form);
        due.is("define the form " + form, desk.define(form), 1);
        due.is("form of the form " + form, desk.form(1, 1), form);
    }

    private static void formOfNumbers() {
        hasForm("a=0", "a=0");
        hasForm("a=00", "a=0");
        hasForm("a=0000", "a=0");
        hasForm("a=0001", "a=1");
        hasForm("a=0100", "a=100");
        hasForm("a=1000", "a=1000");
        hasForm("a=0010+0200*003-0/00", "a=10+200*3-0/0");
        hasForm("007<a&08#0090", "7<a&8#90");
        hasForm("(0000=00)", "0=0");
        hasForm("10=01|!00=10", "10=1|!0=10");
    }

    private static void formOfParentheses() {
        hasForm("a=1", "a=1");
        hasForm("(a=1)", "a=1");
        hasForm("(((a=1)))", "a=1");
        hasForm("(a=1)&(b=1)", "a=1&b=1");
        hasForm("(a=1)|(b=1)", "a=1|b=1");
        hasForm("(a=1&b=1)", "a=1&b=1");
        hasForm("(a=1|b=1)", "a=1|b=1");
        hasForm("((a=1|b=1))", "a=1|b=1");
        hasForm("(a=1&b=1)&c=1", "a=1&b=1&c=1");
        hasForm("a=1&(b=1&c=1)", "a=1&b=1&c=1");
        hasForm("(a=1&b=1)|c=1", "a=1&b=1|c=1");
        hasForm("a=1|(b=1&c=1)", "a=1|b=1&c=1");
        hasForm("(a=1|b=1)|c=1", "a=1|b=1|c=1");
        hasForm("a=1|(b=1|c=1)", "a=1|b=1|c=1");
        hasForm("(a=1|b=1)&c=1", "(a=1|b=1)&c=1");
        hasForm("c=1&(a=1|b=1)", "c=1&(a=1|b=1)");
        hasForm("c=1&((a=1|b=1))&d=1", "c=1&(a=1|b=1)&d=1");
        hasForm("((a=1|b=1))&c=1", "(a=1|b=1)&c=1");
        hasForm("(((a=1)|(b=1)))&((c=1))", "(a=1|b=1)&c=1");
        hasForm("((a=1|b=1)|c=1)&d=1", "(a=1|b=1|c=1)&d=1");
        hasForm("((a=1|b=1)&c=1)&d=1", "(a=1|b=1)&c=1&d=1");
        hasForm("((a=1|b=1)&c=1)|d=1", "(a=1|b=1)&c=1|d=1");
        hasForm("((a=1&b=1)|c=1)&d=1", "(a=1&b=1|c=1)&d=1");
        hasForm("(a=1|b=1)&c=1|d=1", "(a=1|b=1)&c=1|d=1");
        hasForm("d=1|(a=1|b=1)&c=1", "d=1|(a=1|b=1)&c=1");
        hasForm("((((((((a=1))))))))", "a=1");
        hasForm("!(!(!(!(a=1&b=1))))", "!!!!(a=1&b=1)");
        hasForm("((((((((a=1|b=1))))))))&c=1", "(a=1|b=1)&c=1");
        hasForm("!(a=1)", "!a=1");
        hasForm("!((a=1))", "!a=1");
        hasForm("!(!(a=1))", "!!a=1");
        hasForm("(!a=1)&(!(b=1))", "!a=1&!b=1");
        hasForm("!(a=1&b=1)", "!(a=1&b=1)");
        hasForm("!(a=1|b=1)", "!(a=1|b=1)");
        hasForm("!((a=1&b=1))", "!(a=1&b=1)");
        hasForm("!(((a=1|b=1)))", "!(a=1|b=1)");
        hasForm("!!(a=1&b=1)", "!!(a=1&b=1)");
        hasForm("!(!(a=1&b=1))", "!!(a=1&b=1)");
        hasForm("(!(a=1|b=1))&c=1", "!(a=1|b=1)&c=1");
        hasForm("!(a=1&b=1)&c=1", "!(a=1&b=1)&c=1");
        hasForm("!((a=1|b=1)&c=1)", "!((a=1|b=1)&c=1)");
        hasForm("!((a=1&b=1)&c=1)", "!(a=1&b=1&c=1)");
        hasForm("!((a=1)&(b=1|c=1))", "!(a=1&(b=1|c=1))");
        hasForm("((!(a=1|b=1)))|c=1", "!(a=1|b=1)|c=1");
        hasForm("(((a=1|b=1)&(c=1|d=1))|(e=1))&1=1", "((a=1|b=1)&(c=1|d=1)|e=1)&1=1");
        Desk desk = new Desk();
        desk.define("(a=1)");
        due.is("behind the last", desk.server.form(1, 0, 3), BeanServer.NONE);
        due.is("no query 6", desk.server.form(1, 6, -1), BeanServer.NONE);
        due.is("no query -1", desk.server.form(1, -1, -1), BeanServer.NONE);
    }
}
