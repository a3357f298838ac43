/** "Terms": the FORM of a query, and promise 13: form. */
public final class FormsTest {
    private static final Due due = new Due();

    public static void main(String[] args) {
        zerosInFront();
        aSingleZeroStays();
        outerParentheses();
        alone();
        inAnAllOfTwoOrMore();
        inAnAllOfOne();
        rightBehindNot();
        onesWithAndBetweenThem();
        onlyOneOne();
        parenthesesInParentheses();
        mostParentheses();
        aFormIsItsOwnForm();
        codesOfCharacters();
        wholeLength();
        placesBeforeAndBehind();
        numbersOfBeans();
        numbersOfQueries();
        numberOfThePatternDoesntCount();
        whatIsNone();
        due.end();
    }

    private static void hasForm(String query, String form) {
        Desk desk = new Desk();
        due.is("define " + query, desk.define(query), 0);
        due.is("form of " + query, desk.form(1, 0), form);
    }

    private static void zerosInFront() {
        due.by("numbers lose zeros in front");
        hasForm("a=01", "a=1");
        hasForm("a=001", "a=1");
        hasForm("a=0001", "a=1");
        hasForm("a=0100", "a=100");
        hasForm("a=0010", "a=10");
        hasForm("a=0101", "a=101");
        hasForm("a=1000", "a=1000");
        hasForm("a=1001", "a=1001");
        hasForm("a=0010+0200*003-0/00", "a=10+200*3-0/0");
        hasForm("007<a&08#0090", "7<a&8#90");
        hasForm("10=01|!00=10", "10=1|!0=10");
        hasForm("(01=02)", "1=2");
        hasForm("!01=02", "!1=2");
    }

    private static void aSingleZeroStays() {
        due.by("(a single 0 stays)");
        hasForm("a=0", "a=0");
        hasForm("a=00", "a=0");
        hasForm("a=000", "a=0");
        hasForm("a=0000", "a=0");
        hasForm("0=a", "0=a");
        hasForm("0000=00", "0=0");
        hasForm("0+00-000*0000=0/00", "0+0-0*0=0/0");
    }

    private static void outerParentheses() {
        due.by("its own outer parentheses left out, as often as there are some");
        hasForm("((a=1|b=1))&c=1", "(a=1|b=1)&c=1");
        hasForm("(((a=1|b=1)))&c=1", "(a=1|b=1)&c=1");
        hasForm("c=1&((a=1|b=1))&d=1", "c=1&(a=1|b=1)&d=1");
        hasForm("(((a=1)|(b=1)))&((c=1))", "(a=1|b=1)&c=1");
        hasForm("!((a=1&b=1))", "!(a=1&b=1)");
        hasForm("!(((a=1|b=1)))", "!(a=1|b=1)");
        hasForm("!((a=1))", "!a=1");
        hasForm("((a=1&b=1))&c=1", "a=1&b=1&c=1");
    }

    private static void alone() {
        due.by("parentheses are left out where they aren't needed");
        hasForm("a=1", "a=1");
        hasForm("(a=1)", "a=1");
        hasForm("(((a=1)))", "a=1");
        hasForm("(a=1&b=1)", "a=1&b=1");
        hasForm("(a=1|b=1)", "a=1|b=1");
        hasForm("((a=1|b=1))", "a=1|b=1");
        hasForm("(a=1|b=1&c=1)", "a=1|b=1&c=1");
        hasForm("(!a=1)", "!a=1");
    }

    private static void inAnAllOfTwoOrMore() {
        due.by("two or more alls with | between them and stands in an all of two or more ones");
        hasForm("(a=1|b=1)&c=1", "(a=1|b=1)&c=1");
        hasForm("c=1&(a=1|b=1)", "c=1&(a=1|b=1)");
        hasForm("c=1&(a=1|b=1)&d=1", "c=1&(a=1|b=1)&d=1");
        hasForm("(a=1|b=1)&(c=1|d=1)", "(a=1|b=1)&(c=1|d=1)");
        hasForm("(a=1|b=1|c=1)&d=1", "(a=1|b=1|c=1)&d=1");
        hasForm("(a=1&b=1|c=1)&d=1", "(a=1&b=1|c=1)&d=1");
        hasForm("(a=1|b=1&c=1)&d=1", "(a=1|b=1&c=1)&d=1");
        hasForm("(a=1|b=1)&c=1|d=1", "(a=1|b=1)&c=1|d=1");
        hasForm("d=1|(a=1|b=1)&c=1", "d=1|(a=1|b=1)&c=1");
        hasForm("d=1|c=1&(a=1|b=1)", "d=1|c=1&(a=1|b=1)");
    }

    private static void inAnAllOfOne() {
        due.by("needed only if .. stands in an all of two or more ones");
        hasForm("(a=1|b=1)|c=1", "a=1|b=1|c=1");
        hasForm("a=1|(b=1|c=1)", "a=1|b=1|c=1");
        hasForm("a=1|(b=1|c=1)|d=1", "a=1|b=1|c=1|d=1");
        hasForm("(a=1|b=1)|c=1&d=1", "a=1|b=1|c=1&d=1");
        hasForm("c=1&d=1|(a=1|b=1)", "c=1&d=1|a=1|b=1");
    }

    private static void rightBehindNot() {
        due.by("or right behind !");
        hasForm("!(a=1|b=1)", "!(a=1|b=1)");
        hasForm("!!(a=1|b=1)", "!!(a=1|b=1)");
        hasForm("!(a=1|b=1)&c=1", "!(a=1|b=1)&c=1");
        hasForm("c=1|!(a=1|b=1)", "c=1|!(a=1|b=1)");
        hasForm("c=1&!(a=1&b=1|d=1)", "c=1&!(a=1&b=1|d=1)");
        hasForm("(!(a=1|b=1))&c=1", "!(a=1|b=1)&c=1");
        hasForm("((!(a=1|b=1)))|c=1", "!(a=1|b=1)|c=1");
    }

    private static void onesWithAndBetweenThem() {
        due.by("or is two or more ones with & between them and stands right behind !");
        hasForm("!(a=1&b=1)", "!(a=1&b=1)");
        hasForm("!(a=1&b=1&c=1)", "!(a=1&b=1&c=1)");
        hasForm("!(a=1&b=1)&c=1", "!(a=1&b=1)&c=1");
        hasForm("!(!(a=1&b=1))", "!!(a=1&b=1)");
        hasForm("!((a=1&b=1)&c=1)", "!(a=1&b=1&c=1)");
        hasForm("(a=1&b=1)&c=1", "a=1&b=1&c=1");
        hasForm("a=1&(b=1&c=1)", "a=1&b=1&c=1");
        hasForm("a=1&(b=1&c=1)&d=1", "a=1&b=1&c=1&d=1");
        hasForm("(a=1&b=1)|c=1", "a=1&b=1|c=1");
        hasForm("a=1|(b=1&c=1)", "a=1|b=1&c=1");
    }

    private static void onlyOneOne() {
        due.by("needed only if the query in it .. is two or more");
        hasForm("!(a=1)", "!a=1");
        hasForm("!(!a=1)", "!!a=1");
        hasForm("!(!(a=1))", "!!a=1");
        hasForm("(a=1)&(b=1)", "a=1&b=1");
        hasForm("(a=1)|(b=1)", "a=1|b=1");
        hasForm("(!a=1)&(!(b=1))", "!a=1&!b=1");
        hasForm("!(!(a=1|b=1))", "!!(a=1|b=1)");
    }

    private static void parenthesesInParentheses() {
        due.by("parentheses are left out where they aren't needed: each pair by itself");
        hasForm("((a=1|b=1)|c=1)&d=1", "(a=1|b=1|c=1)&d=1");
        hasForm("((a=1|b=1)&c=1)&d=1", "(a=1|b=1)&c=1&d=1");
        hasForm("((a=1|b=1)&c=1)|d=1", "(a=1|b=1)&c=1|d=1");
        hasForm("((a=1&b=1)|c=1)&d=1", "(a=1&b=1|c=1)&d=1");
        hasForm("!((a=1|b=1)&c=1)", "!((a=1|b=1)&c=1)");
        hasForm("!((a=1)&(b=1|c=1))", "!(a=1&(b=1|c=1))");
        hasForm("!((a=1|b=1)|c=1)", "!(a=1|b=1|c=1)");
        hasForm("(((a=1|b=1)&(c=1|d=1))|(e=1))&1=1", "((a=1|b=1)&(c=1|d=1)|e=1)&1=1");
        hasForm("(a=1&(b=1|(c=1&(d=1|e=1))))", "a=1&(b=1|c=1&(d=1|e=1))");
    }

    private static void mostParentheses() {
        due.by("more than 8 characters that are ( or ! are too many: 8 are not");
        hasForm("((((((((a=1))))))))", "a=1");
        hasForm("((((((((a=1|b=1))))))))&c=1", "(a=1|b=1)&c=1");
        hasForm("!(!(!(!(a=1&b=1))))", "!!!!(a=1&b=1)");
        hasForm("!!!!!!!!a=1", "!!!!!!!!a=1");
        hasForm("((((a=1|b=1)&c=1|d=1)&e=1|1=1)&2=2|3=3)&!(4=4)&!5=5", "((((a=1|b=1)&c=1|d=1)&e=1|1=1)&2=2|3=3)&!4=4&!5=5");
    }

    private static void aFormIsItsOwnForm() {
        due.by("The FORM of a query is what is left");
        String[] forms = {"0=0", "!(a=1&b=1)", "(a=1|b=1)&c=1", "!!(a=1|b=1)&(c=1|!d=1)", "a=1|b=1&c=1",
            "9999=9999&" + "a+b-c*d/e#100&".repeat(3) + "a<1"};
        for (String form : forms) {
            hasForm(form, form);
        }
    }

    private static Desk withOneOfEach() {
        Desk desk = new Desk();
        desk.register("dom:z=1,a=22");
        desk.define("(a=01)");
        desk.select("?:*", -1);
        return desk;
    }

    private static void codesOfCharacters() {
        due.by("Code of character k (from 0) of a form");
        Desk desk = withOneOfEach();
        String[] forms = {"dom:a=22,z=1", "a=1", "?:*"};
        for (int what = 0; what < 3; what++) {
            for (int k = 0; k < forms[what].length(); k++) {
                due.is("form " + what + " 0 " + k, desk.form(what, 0, k), forms[what].charAt(k));
            }
        }
    }

    private static void wholeLength() {
        due.by("k = -1: how many characters it has");
        Desk desk = withOneOfEach();
        due.is("of the name", desk.form(0, 0, -1), 12);
        due.is("of the query", desk.form(1, 0, -1), 3);
        due.is("of the pattern", desk.form(2, 0, -1), 3);
        desk.select(":*", -1);
        due.is("of the shortest pattern", desk.form(2, 0, -1), 2);
    }

    private static void placesBeforeAndBehind() {
        due.by("NONE if there is no such one: no character k");
        Desk desk = withOneOfEach();
        int[] lengths = {12, 3, 3};
        for (int what = 0; what < 3; what++) {
            due.is("the last of " + what, desk.form(what, 0, lengths[what] - 1) > 0, true);
            int[] none = {lengths[what], lengths[what] + 1, -2, Integer.MIN_VALUE, Integer.MAX_VALUE};
            for (int k : none) {
                due.is("form " + what + " 0 " + k, desk.form(what, 0, k), BeanServer.NONE);
            }
        }
    }

    private static void areNone(Desk desk, int what, int... numbers) {
        for (int n : numbers) {
            due.is("form " + what + " " + n + " 0", desk.form(what, n, 0), BeanServer.NONE);
            due.is("form " + what + " " + n + " -1", desk.form(what, n, -1), BeanServer.NONE);
        }
    }

    private static void numbersOfBeans() {
        due.by("what 0 the name of bean n; NONE if there is no such one");
        Desk desk = Scenes.sparse();
        due.is("bean 0", desk.form(0, 0), "s:n=0");
        due.is("bean 3", desk.form(0, 3), "s:n=3");
        areNone(desk, 0, -1, 1, 4, 11, 12, Integer.MIN_VALUE, Integer.MAX_VALUE);
        Desk full = Scenes.full();
        due.is("bean 11", full.form(0, 11), "f:n=11");
        due.is("bean 12", full.form(0, 12), "none");
    }

    private static void numbersOfQueries() {
        due.by("what 1 query n; NONE if there is no such one");
        Desk desk = Scenes.sparse();
        due.is("query 0", desk.form(1, 0), "1=1");
        due.is("query 2", desk.form(1, 2), "(a=1|b=1)&c=2");
        areNone(desk, 1, -1, 3, 5, 6, Integer.MIN_VALUE, Integer.MAX_VALUE);
        Desk full = Scenes.full();
        due.is("query 5", full.form(1, 5), "!c=3");
        due.is("query 6", full.form(1, 6), "none");
    }

    private static void numberOfThePatternDoesntCount() {
        due.by("what 2 the pattern of the latest select that was not refused (n doesn't count)");
        Desk desk = new Desk();
        int[] numbers = {0, 1, 2, -1, 12, Integer.MIN_VALUE, Integer.MAX_VALUE};
        for (int n : numbers) {
            due.is("before the first select, n " + n, desk.form(2, n, -1), BeanServer.NONE);
            due.is("before the first select, n " + n, desk.form(2, n, 0), BeanServer.NONE);
        }
        desk.select("a:b", -1);
        due.is("after a refused one", desk.form(2, 0, -1), BeanServer.NONE);
        desk.select("x:z=1,y=?,*", -1);
        for (int n : numbers) {
            due.is("n " + n, desk.form(2, n), "x:y=?,z=1,*");
        }
        desk.select("b:*", -1);
        due.is("the latest", desk.form(2, 0), "b:*");
    }

    private static void whatIsNone() {
        due.by("NONE if .. what isn't 0 .. 2");
        Desk desk = withOneOfEach();
        int[] none = {-1, 3, 4, Integer.MIN_VALUE, Integer.MAX_VALUE};
        for (int what : none) {
            areNone(desk, what, 0);
        }
    }
}
