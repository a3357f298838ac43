/** "Terms": QUERY, QUERIES, and promises 9 and 10: define, check. */
public final class QueriesTest {
    private static final Due due = new Due();
    private static final int FALSE = 0;
    private static final int TRUE = 1;
    private static final int FAILS = 2;
    private static final int[] EDGES = {Integer.MIN_VALUE, Integer.MIN_VALUE + 1, -65536, -7, -2, -1, 0, 1, 2, 7, 65536,
        Integer.MAX_VALUE - 1, Integer.MAX_VALUE};
    /** Parts of a query that are false, true and failing for a bean without attributes. */
    private static final String[] PARTS = {"1=2", "1=1", "e=1"};

    public static void main(String[] args) {
        joints();
        nots();
        parentheses();
        relationCharacters();
        operators();
        units();
        numberLength();
        noSpaces();
        whatIsNoQuery();
        missingAttributesFail();
        divisionByZeroFails();
        plusMinusTimesWrap();
        divisionRoundsTowardsZero();
        fromTheLeft();
        relations();
        behindOr();
        behindAnd();
        orAndTogether();
        notAndParenthesesOfWhatFails();
        tooManyNestings();
        noQueryIsBad();
        sixQueries();
        queriesStay();
        checkRefuses();
        checkLooksAtTheBeanAsItIs();
        due.end();
    }

    private static void isQuery(String text, boolean isQuery) {
        Desk desk = new Desk();
        due.is("define " + text, desk.define(text), isQuery ? 0 : BeanServer.BAD);
        due.is("form after " + text, desk.form(1, 0, -1) > 0, isQuery);
    }

    private static void areNone(String... texts) {
        for (String text : texts) {
            isQuery(text, false);
        }
    }

    private static boolean isDigit(char c) {
        return c >= '0' && c <= '9';
    }

    private static void joints() {
        due.by("query = all { | all }; all = one { & one }");
        for (char c = 32; c <= 126; c++) {
            isQuery("1=1" + c + "1=1", c == '|' || c == '&');
        }
        areNone("a=1|", "|a=1", "a=1||b=1", "a=1&", "&a=1", "a=1&&b=1", "a=1&|b=1", "a=1|&b=1", "|", "&", "a=1|b", "a=1&b", "a=1|2");
        isQuery("a=1|".repeat(14) + "a=11", true);
        isQuery("a=1&".repeat(14) + "a=11", true);
        isQuery("a=1|b=2&c=3|d=4&e=5&1=1", true);
    }

    private static void nots() {
        due.by("one = ! one");
        for (char c = 32; c <= 126; c++) {
            isQuery(c + "1=1", c == '!' || isDigit(c));
        }
        isQuery("!!a=1", true);
        isQuery("!(a=1)", true);
        isQuery("a=1&!b=1|!!c=1", true);
        areNone("!", "!a", "!1", "a=1!", "a!b", "a!=b", "a=!1", "a=1!b=1", "!&a=1", "(!)a=1", "a=1&!");
    }

    private static void parentheses() {
        due.by("one = ( query )");
        isQuery("(a=1)", true);
        isQuery("((a=1))", true);
        isQuery("(!a=1)", true);
        isQuery("(a=1|b=1)&(c=1&d=1)", true);
        areNone("(", ")", "()", "(a=1", "a=1)", "((a=1)", "(a=1))", ")a=1(", "()a=1", "a=1()", "(a=1)(b=1)", "(a=1)b=1",
            "a=1(b=1)", "(a)=1", "(a+1)=2", "a=(1)", "(a=1]", "[a=1]", "(a=1)=1", "a=1|(", "!(a=1");
    }

    private static void relationCharacters() {
        due.by("value R value with R one of = < > #");
        for (char c = 32; c <= 126; c++) {
            isQuery("1" + c + "1", c == '=' || c == '<' || c == '>' || c == '#');
        }
        areNone("a", "1", "a=", "=a", "=", "a==1", "a=1=2", "a<=b", "a<>b", "a=#1", "a+b");
    }

    private static void operators() {
        due.by("value = product { + product or - product }; product = unit { * unit or / unit }");
        for (char c = 32; c <= 126; c++) {
            isQuery("1" + c + "1=1", c == '+' || c == '-' || c == '*' || c == '/' || isDigit(c));
            isQuery("1=1" + c + "1", c == '+' || c == '-' || c == '*' || c == '/' || isDigit(c));
        }
        isQuery("a+b-c*d/e=1+2-3*4/5", true);
        areNone("a=-1", "a=+1", "-a=1", "a=1+", "a=1-", "a=1*", "a=1/", "a=*1", "/a=1", "a+=1", "a=1++2", "a=1+-2", "a=1*/2");
    }

    private static void units() {
        due.by("unit = a number, or an attribute a .. e");
        for (char c = 32; c <= 126; c++) {
            isQuery(c + "=1", isDigit(c) || c >= 'a' && c <= 'e');
            isQuery("1=" + c, isDigit(c) || c >= 'a' && c <= 'e');
        }
        areNone("aa=1", "a1=1", "1a=1", "a=1b", "a=bc");
    }

    private static void numberLength() {
        due.by("a number (1 to 4 digits)");
        for (int length = 0; length <= 6; length++) {
            boolean right = length >= 1 && length <= 4;
            isQuery("a=" + "987654".substring(0, length), right);
            isQuery("987654".substring(0, length) + "=a", right);
            isQuery("a=" + "000000".substring(0, length), right);
            isQuery("a=1+" + "000012".substring(0, length), right);
        }
        Desk desk = withBean();
        desk.define("a=9999&b=0&c=10");
        desk.set(0, 0, 9999);
        desk.set(0, 1, 0);
        desk.set(0, 2, 10);
        due.is("check of numbers with 4, 1 and 2 digits", desk.check(0, 0), TRUE);
    }

    private static void noSpaces() {
        due.by("(No spaces.)");
        String query = "!(a=10)|b+1#2";
        isQuery(query, true);
        for (int i = 0; i <= query.length(); i++) {
            isQuery(query.substring(0, i) + " " + query.substring(i), false);
        }
    }

    private static void whatIsNoQuery() {
        due.by("BAD: it is no query");
        areNone("", " ", "a:a=1", "a:*", "a=1,b=1", "a=1;", "a=1.5", "a~1", "A=1", "a=B", "a%2=1", "a^b=1", "a=1\"", "\"a\"=1");
        for (char c = 32; c <= 126; c++) {
            isQuery("a=1" + c, isDigit(c));
        }
    }

    private static Desk withBean() {
        Desk desk = new Desk();
        desk.register("q:q=1");
        return desk;
    }

    /** What a query answers for a bean without attributes. */
    private static void answers(String query, int answer) {
        Desk desk = withBean();
        due.is("define " + query, desk.define(query), 0);
        due.is("check " + query, desk.check(0, 0), answer);
    }

    /** What a query answers for a bean with these values of a, b, c; d and e are missing. */
    private static void answers(String query, int a, int b, int c, int answer) {
        Desk desk = withBean();
        desk.set(0, 0, a);
        desk.set(0, 1, b);
        desk.set(0, 2, c);
        due.is("define " + query, desk.define(query), 0);
        due.is(query + " for " + a + " " + b + " " + c, desk.check(0, 0), answer);
    }

    private static void missingAttributesFail() {
        due.by("an attribute that the bean hasn't fails");
        for (int attribute = 0; attribute < 5; attribute++) {
            String letter = Character.toString('a' + attribute);
            String[] queries = {"X=1", "1=X", "1+X=1", "1-X=1", "1*X=1", "1/X=1", "X/1=1", "0*X=0", "X=X", "1=2+X"};
            for (String query : queries) {
                Desk desk = withBean();
                for (int i = 0; i < 5; i++) {
                    desk.set(0, i, 1);
                }
                desk.define(query.replace("X", letter));
                due.is(query + " with " + letter, desk.check(0, 0) == FAILS, false);
                desk.unset(0, attribute);
                due.is(query + " without " + letter, desk.check(0, 0), FAILS);
            }
        }
    }

    private static void divisionByZeroFails() {
        due.by("/ with 0 behind it");
        answers("1/0=0", FAILS);
        answers("1/0000=0", FAILS);
        answers("0/0=0", FAILS);
        answers("1=1/0", FAILS);
        answers("1+1/0*0=0", FAILS);
        answers("8/2/0=0", FAILS);
        answers("8/0/2=0", FAILS);
        answers("1/0#1", FAILS);
        answers("0/1=0", TRUE);
        answers("1/0*1=0", FAILS);
        answers("1*0=0", TRUE);
        answers("1-0=1", TRUE);
        answers("a/b=1", 1, 0, 0, FAILS);
        answers("a/b=1", 1, 1, 0, TRUE);
        answers("a/b=1-2", 1, -1, 0, TRUE);
        answers("b/a=0", 1, 0, 0, TRUE);
    }

    private static void holdsOnlyFor(String operation, int a, int b, long result) {
        int wrapped = (int) result;
        answers(operation + "=c", a, b, wrapped, TRUE);
        answers(operation + "=c", a, b, wrapped + 1, FALSE);
        answers("c=" + operation, a, b, wrapped, TRUE);
    }

    private static void plusMinusTimesWrap() {
        due.by("+ - * wrap");
        for (int a : EDGES) {
            for (int b : EDGES) {
                holdsOnlyFor("a+b", a, b, (long) a + b);
                holdsOnlyFor("a-b", a, b, (long) a - b);
                holdsOnlyFor("a*b", a, b, (long) a * b);
            }
        }
        answers("a+1=c", Integer.MAX_VALUE, 0, Integer.MIN_VALUE, TRUE);
        answers("a-1=c", Integer.MIN_VALUE, 0, Integer.MAX_VALUE, TRUE);
        answers("a*b=0", 65536, 65536, 0, TRUE);
        answers("a+1<a", Integer.MAX_VALUE, 0, 0, TRUE);
        answers("a+1<a", Integer.MAX_VALUE - 1, 0, 0, FALSE);
    }

    private static void divisionRoundsTowardsZero() {
        due.by("/ is rounded towards 0 (-2147483648 / -1 is -2147483648)");
        for (int a : EDGES) {
            for (int b : EDGES) {
                if (b != 0) {
                    holdsOnlyFor("a/b", a, b, (long) a / b);
                }
            }
        }
        answers("a/b=c", 7, 2, 3, TRUE);
        answers("a/b=c", -7, 2, -3, TRUE);
        answers("a/b=c", 7, -2, -3, TRUE);
        answers("a/b=c", -7, -2, 3, TRUE);
        answers("a/b=c", -1, 2, 0, TRUE);
        answers("a/b=c", Integer.MIN_VALUE, -1, Integer.MIN_VALUE, TRUE);
    }

    private static void fromTheLeft() {
        due.by("+ and - are worked out one after the other from the left, * and / likewise");
        answers("a-b-c=5", 10, 3, 2, TRUE);
        answers("a-b+c=9", 10, 3, 2, TRUE);
        answers("a/b/c=5", 100, 10, 2, TRUE);
        answers("a/b*c=30", 100, 10, 3, TRUE);
        answers("a*b/c=15", 5, 9, 3, TRUE);
        answers("a/b*b=6", 7, 2, 0, TRUE);
        answers("a+b*c=14", 2, 4, 3, TRUE);
        answers("a*b+c=11", 2, 4, 3, TRUE);
        answers("a-b/c=9", 10, 4, 3, TRUE);
        answers("1-2*3-8/4*2+1=0-8", TRUE);
        answers("9=1+2*4", TRUE);
    }

    private static void relations() {
        due.by("R one of = < > #; # is \"not equal\"");
        for (int a : EDGES) {
            for (int b : EDGES) {
                answers("a=b", a, b, 0, a == b ? TRUE : FALSE);
                answers("a<b", a, b, 0, a < b ? TRUE : FALSE);
                answers("a>b", a, b, 0, a > b ? TRUE : FALSE);
                answers("a#b", a, b, 0, a != b ? TRUE : FALSE);
            }
        }
    }

    private static int or(int left, int right) {
        return left == FALSE ? right : left;
    }

    private static int and(int left, int right) {
        return left == TRUE ? right : left;
    }

    private static int not(int answer) {
        return answer == FAILS ? FAILS : 1 - answer;
    }

    private static void behindOr() {
        due.by("What is behind | is looked at only if all before it was false");
        for (int x = 0; x < 3; x++) {
            for (int y = 0; y < 3; y++) {
                answers(PARTS[x] + "|" + PARTS[y], or(x, y));
                for (int z = 0; z < 3; z++) {
                    answers(PARTS[x] + "|" + PARTS[y] + "|" + PARTS[z], or(or(x, y), z));
                }
            }
        }
        answers("b=0|a/b=1", 1, 0, 0, TRUE);
    }

    private static void behindAnd() {
        due.by("what is behind & only if all before it was true");
        for (int x = 0; x < 3; x++) {
            for (int y = 0; y < 3; y++) {
                answers(PARTS[x] + "&" + PARTS[y], and(x, y));
                for (int z = 0; z < 3; z++) {
                    answers(PARTS[x] + "&" + PARTS[y] + "&" + PARTS[z], and(and(x, y), z));
                }
            }
        }
        answers("b#0&a/b=1", 1, 0, 0, FALSE);
    }

    private static void orAndTogether() {
        due.by("query = all { | all }; all = one { & one }: worked out");
        for (int i = 0; i < 27; i++) {
            int x = i % 3;
            int y = i / 3 % 3;
            int z = i / 9;
            answers(PARTS[x] + "|" + PARTS[y] + "&" + PARTS[z], or(x, and(y, z)));
            answers(PARTS[x] + "&" + PARTS[y] + "|" + PARTS[z], or(and(x, y), z));
            answers("(" + PARTS[x] + "|" + PARTS[y] + ")&" + PARTS[z], and(or(x, y), z));
            answers(PARTS[x] + "&(" + PARTS[y] + "|" + PARTS[z] + ")", and(x, or(y, z)));
            answers("!" + PARTS[x] + "&" + PARTS[y] + "|!" + PARTS[z], or(and(not(x), y), not(z)));
            answers("!(" + PARTS[x] + "|" + PARTS[y] + ")&" + PARTS[z], and(not(or(x, y)), z));
            answers("!(" + PARTS[x] + "&" + PARTS[y] + ")|" + PARTS[z], or(not(and(x, y)), z));
        }
    }

    private static void notAndParenthesesOfWhatFails() {
        due.by("Where a part that is looked at fails, the query fails.");
        for (int x = 0; x < 3; x++) {
            answers(PARTS[x], x);
            answers("!" + PARTS[x], not(x));
            answers("!!" + PARTS[x], x);
            answers("(" + PARTS[x] + ")", x);
            answers("!(" + PARTS[x] + ")", not(x));
            answers("!(!(!" + PARTS[x] + "))", not(x));
            answers("!!!!!!!!" + PARTS[x], x);
            answers("((((((((" + PARTS[x] + "))))))))", x);
        }
        answers("(e=1|1=1)&1=1", FAILS);
        answers("1=2&(e=1|1=1)|!e=1&1=1", FAILS);
        answers("1=1|(1=1&(e=1))", TRUE);
    }

    private static void tooManyNestings() {
        due.by("FULL: the buffer has more than 8 characters that are ( or !");
        for (int count = 0; count <= 10; count++) {
            int answer = count > 8 ? BeanServer.FULL : 0;
            due.is(count + " of !", new Desk().define("!".repeat(count) + "a=1"), answer);
            due.is(count + " of (", new Desk().define("(".repeat(count) + "a=1" + ")".repeat(count)), answer);
            due.is(count + " side by side", new Desk().define("!a=1|".repeat(count) + "a=1"), answer);
            due.is(count + ", two of them (", new Desk().define("(!(" + "!".repeat(count) + "a=1))"),
                count + 3 > 8 ? BeanServer.FULL : 0);
        }
        due.is("60 of (", new Desk().define("(".repeat(60)), BeanServer.FULL);
        due.is("60 of !", new Desk().define("!".repeat(60)), BeanServer.FULL);
        due.is("60 of )", new Desk().define(")".repeat(60)), BeanServer.BAD);
        due.is("many of ) don't count", new Desk().define("(a=1)))))))))))"), BeanServer.BAD);
        due.is("FULL before BAD, 9 of (", new Desk().define("((((((((("), BeanServer.FULL);
        due.is("BAD with 8 of (", new Desk().define("(((((((("), BeanServer.BAD);
        due.is("BAD with 8 of !", new Desk().define("!!!!!!!!"), BeanServer.BAD);
        due.is("FULL before BAD, 9 of ! behind an end", new Desk().define("a=1!!!!!!!!!"), BeanServer.FULL);
    }

    private static void noQueryIsBad() {
        due.by("define: BAD: it is no query; FULL: 6 queries are there");
        Desk desk = withSix();
        due.is("BAD before FULL", desk.define("a=1&"), BeanServer.BAD);
        due.is("BAD before FULL, an empty buffer", desk.define(), BeanServer.BAD);
        due.is("too many of ! before BAD", desk.define("!!!!!!!!!"), BeanServer.FULL);
    }

    private static Desk withSix() {
        Desk desk = new Desk();
        for (int i = 0; i < 6; i++) {
            due.is("define " + i, desk.define("a=" + i), i);
        }
        return desk;
    }

    private static void sixQueries() {
        due.by("define: its number. FULL: 6 queries are there");
        Desk desk = withSix();
        due.is("the 7th", desk.define("a=6"), BeanServer.FULL);
        due.is("the same again", desk.define("a=1"), BeanServer.FULL);
        for (int i = 0; i < 6; i++) {
            due.is("form " + i, desk.form(1, i), "a=" + i);
        }
        due.is("no form 6", desk.form(1, 6), "none");
        due.is("no notices", desk.listen(63), 0);
        Desk same = new Desk();
        same.define("a=1");
        due.is("a query that is there already", same.define("a=1"), 1);
        due.is("refused ones take no number", same.define("a="), BeanServer.BAD);
        due.is("the next", same.define("a=2"), 2);
    }

    private static void queriesStay() {
        due.by("QUERIES 0 .. 5: a new one gets the lowest number that is free (queries stay)");
        Desk desk = withBean();
        desk.define("a=0");
        desk.unregister("q:q=1");
        desk.define("a=1");
        desk.register("q:q=2");
        desk.set(0, 0, 1);
        due.is("query 0", desk.form(1, 0), "a=0");
        due.is("query 0 for a new bean", desk.check(0, 0), FALSE);
        due.is("query 1 for a new bean", desk.check(1, 0), TRUE);
    }

    private static void checkRefuses() {
        due.by("check: NONE: there is no such query, or no such bean");
        Desk desk = withBean();
        desk.register("q:q=2");
        desk.unregister("q:q=1");
        desk.define("1=1");
        due.is("check", desk.check(0, 1), TRUE);
        int[] noQueries = {-1, 1, 5, 6, Integer.MIN_VALUE, Integer.MAX_VALUE};
        for (int query : noQueries) {
            due.is("query " + query, desk.check(query, 1), BeanServer.NONE);
            due.is("query " + query + " and no bean", desk.check(query, 0), BeanServer.NONE);
        }
        int[] noBeans = {-1, 0, 2, 11, 12, Integer.MIN_VALUE, Integer.MAX_VALUE};
        for (int bean : noBeans) {
            due.is("bean " + bean, desk.check(0, bean), BeanServer.NONE);
        }
        Desk most = Scenes.full();
        due.is("query 5 and bean 11", most.check(5, 11), FAILS);
        due.is("query 6 of 6", most.check(6, 11), BeanServer.NONE);
        due.is("bean 12 of 12", most.check(5, 12), BeanServer.NONE);
    }

    private static void checkLooksAtTheBeanAsItIs() {
        due.by("check: A query for one bean: 1 true, 0 false, 2 it fails");
        Desk desk = withBean();
        desk.register("b:a=1");
        desk.define("a=b|e=1");
        due.is("missing", desk.check(0, 0), FAILS);
        desk.set(0, 0, 3);
        desk.set(0, 1, 3);
        due.is("set", desk.check(0, 0), TRUE);
        due.is("another bean", desk.check(0, 1), FAILS);
        desk.set(0, 1, 4);
        desk.set(0, 4, 2);
        due.is("changed", desk.check(0, 0), FALSE);
        desk.unset(0, 4);
        due.is("unset", desk.check(0, 0), FAILS);
        desk.unregister("q:q=1");
        due.is("gone", desk.check(0, 0), BeanServer.NONE);
        due.is("no notices of these", desk.listen(63), 3);
    }
}
