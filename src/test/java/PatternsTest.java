/** Promises 11, 12 and, for patterns, 13: select, selected, form. */
public final class PatternsTest {
    private static final Due due = new Due();

    public static void main(String[] args) {
        domainPatterns();
        valuePatterns();
        closedAndOpenLists();
        selectRefusesWhatIsNoPattern();
        selectByQuery();
        selectCodesInOrder();
        refusedSelectChangesNothing();
        selectedStays();
        formOfPatterns();
        due.end();
    }

    private static void fits(String pattern, String name, boolean fits) {
        Desk desk = new Desk();
        desk.register(name);
        due.is("select " + pattern + " of " + name, desk.select(pattern, -1), fits ? 1 : 0);
        due.is("selected by " + pattern, desk.server.selected(0), fits ? 0 : BeanServer.NONE);
    }

    private static void domainPatterns() {
        fits(":*", "a:a=1", false);
        fits("*:*", "a:a=1", true);
        fits("*:*", "abcdef:a=1", true);
        fits("?:*", "a:a=1", true);
        fits("?:*", "ab:a=1", false);
        fits("??:*", "a:a=1", false);
        fits("??????:*", "abcdef:a=1", true);
        fits("??????:*", "abcde:a=1", false);
        fits("******:*", "a:a=1", true);
        fits("ab:*", "ab:a=1", true);
        fits("ab:*", "abc:a=1", false);
        fits("abc:*", "ab:a=1", false);
        fits("ab:*", "ac:a=1", false);
        fits("a*:*", "a:a=1", true);
        fits("a*:*", "ba:a=1", false);
        fits("*a:*", "aaa:a=1", true);
        fits("*a:*", "ab:a=1", false);
        fits("*ab*:*", "aaab:a=1", true);
        fits("*ab*:*", "ababa:a=1", true);
        fits("*aab*:*", "aaaab:a=1", true);
        fits("*aab*:*", "abab:a=1", false);
        fits("a*b*c:*", "aXc:a=1".replace('X', 'b'), true);
        fits("a*b*c:*", "abcbcc:a=1", true);
        fits("a*b*c:*", "acb:a=1", false);
        fits("*?:*", "a:a=1", true);
        fits("?*?:*", "a:a=1", false);
        fits("?*?:*", "ab:a=1", true);
        fits("*?*?*:*", "abc:a=1", true);
        fits("*1:*", "a1:a=1", true);
    }

    private static void valuePatterns() {
        fits("a:a=1", "a:a=1", true);
        fits("a:a=1", "a:a=2", false);
        fits("a:a=1", "a:a=11", false);
        fits("a:a=11", "a:a=1", false);
        fits("a:a=?", "a:a=x", true);
        fits("a:a=?", "a:a=xy", false);
        fits("a:a=????", "a:a=wxyz", true);
        fits("a:a=????", "a:a=wxy", false);
        fits("a:a=*", "a:a=wxyz", true);
        fits("a:a=****", "a:a=w", true);
        fits("a:a=x*", "a:a=x", true);
        fits("a:a=*x", "a:a=xy", false);
        fits("a:a=*x*y", "a:a=xxy", true);
        fits("a:a=*x*y", "a:a=yx", false);
        fits("a:a=w?y*", "a:a=wxyz", true);
        fits("a:a=?*?", "a:a=w", false);
    }

    private static void closedAndOpenLists() {
        fits("a:*", "a:a=1,b=2,c=3", true);
        fits("a:a=1", "a:a=1,b=2", false);
        fits("a:a=1,*", "a:a=1,b=2", true);
        fits("a:a=1,*", "a:a=1", true);
        fits("a:b=2,*", "a:a=1,b=2", true);
        fits("a:c=2,*", "a:a=1,b=2", false);
        fits("a:b=2,a=1", "a:a=1,b=2", true);
        fits("a:a=1,b=2", "a:b=2,a=1", true);
        fits("a:a=1,b=2", "a:a=1", false);
        fits("a:a=1,b=2,*", "a:a=1", false);
        fits("a:a=1,b=2,*", "a:c=3,b=2,a=1", true);
        fits("a:a=1,b=3,*", "a:c=3,b=2,a=1", false);
        fits("b:a=1,*", "a:a=1", false);
        fits("a:b=1", "a:a=1", false);
        fits("a:a=*", "a:a=1,z=2", false);
        fits("a:z=?,*", "a:a=1,z=2", true);
    }

    private static void selectRefusesWhatIsNoPattern() {
        String[] bad = {"", ":", "a", "a:", "*", "**", "a:a", "a:a=", "a:=b", "a:a=b,", "a:,a=b", "a:,*", "a:*,", "a:*,*",
            "a:*,a=b", "a:a=b,*,", "a:a=b,*,*", "a:a=b,*,c=d", "a:a=b,**", "a:**", "a:?", "a:?=b", "a:*=b", "a:a=b,?",
            "abcdefg:*", "*******:*", "a:a=?????", "a:a=bcdef", "a:a=b,a=c", "a:a=b,a=b,*", "A:*", "a:A=b", "a:a=B",
            "a:1=b", "a b:*", "a:* ", " a:*", "a:a=b;*", "a::*", "a:a==b", "a:a=b=c", "a:a=b*,", "a:a=,*", "a:a,*"};
        for (String pattern : bad) {
            Desk desk = new Desk();
            due.is("select " + pattern, desk.select(pattern, -1), BeanServer.BAD);
            due.is("no pattern after " + pattern, desk.form(2, 0), "none");
            due.is("select after " + pattern, desk.select("*:*", -1), 0);
        }
        String[] good = {":*", "*:*", ":a=b", "?*?*?*:*", "a:a=b", "a:a=*,*", "a:a=????,b=****,*", "a:z=1,y=2"};
        for (String pattern : good) {
            due.is("select " + pattern, new Desk().select(pattern, -1), 0);
        }
        due.is("15 properties", new Desk().select(":a=1,b=1,c=1,d=1,e=1,f=1,g=1,h=1,i=1,j=1,k=1,l=1,m=1,n=1,z=1", -1), 0);
    }

    private static void selectByQuery() {
        Desk desk = new Desk();
        for (int i = 0; i < 12; i++) {
            desk.register((i % 2 == 0 ? "even" : "odd") + ":n=" + i);
            if (i != 4) {
                desk.server.set(i, 0, i);
            }
        }
        desk.define("a>2");
        desk.define("a=a");
        desk.define("a/a=1|1=1");
        desk.define("1=1");
        due.is("all", desk.select("*:*", -1), 12);
        due.is("all, by number", desk.selection(), "0 1 2 3 4 5 6 7 8 9 10 11 ");
        due.is("even", desk.select("even:*", -1), 6);
        due.is("even, by number", desk.selection(), "0 2 4 6 8 10 ");
        due.is("even and a>2", desk.select("even:*", 0), 3);
        due.is("what fails isn't selected", desk.selection(), "6 8 10 ");
        due.is("odd and a>2", desk.select("o*:n=?", 0), 4);
        due.is("odd and a>2, by number", desk.selection(), "3 5 7 9 ");
        due.is("a=a", desk.select("*:*", 1), 11);
        due.is("division by 0 fails", desk.select("*:*", 2), 10);
        due.is("division by 0, by number", desk.selection(), "1 2 3 5 6 7 8 9 10 11 ");
        due.is("always true", desk.select("*:n=1?", 3), 2);
        due.is("always true, by number", desk.selection(), "10 11 ");
        due.is("nothing fits", desk.select("none:*", 3), 0);
        due.is("nothing selected", desk.selection(), "");
        due.is("no notices of these", desk.server.listen(63), 12);
    }

    private static void selectCodesInOrder() {
        Desk desk = new Desk();
        desk.define("1=1");
        int[] noQueries = {-2, 1, 5, 6, Integer.MIN_VALUE, Integer.MAX_VALUE};
        for (int query : noQueries) {
            due.is("select by query " + query, desk.select("*:*", query), BeanServer.NONE);
            due.is("NONE before BAD, query " + query, desk.select("*", query), BeanServer.NONE);
            due.is("the buffer is taken all the same", desk.server.select(-1), BeanServer.BAD);
        }
        due.is("BAD with a query", desk.select("*", 0), BeanServer.BAD);
        due.is("select by a query", desk.select("*:*", 0), 0);
    }

    private static void refusedSelectChangesNothing() {
        Desk desk = new Desk();
        desk.register("a:a=1");
        desk.register("b:a=1");
        desk.select("b:*", -1);
        desk.select("a", -1);
        due.is("selected after BAD", desk.selection(), "1 ");
        due.is("form after BAD", desk.form(2, 0), "b:*");
        desk.select("a:*", 0);
        due.is("selected after NONE", desk.selection(), "1 ");
        due.is("form after NONE", desk.form(2, 0), "b:*");
    }

    private static void selectedStays() {
        Desk desk = new Desk();
        desk.register("a:a=1");
        desk.register("b:a=1");
        desk.select("*:*", -1);
        desk.unregister("a:a=1");
        due.is("a bean that is gone stays selected", desk.selection(), "0 1 ");
        desk.register("c:a=1");
        desk.register("d:a=1");
        due.is("a new bean isn't selected", desk.selection(), "0 1 ");
        int[] none = {-1, 2, 12, Integer.MIN_VALUE, Integer.MAX_VALUE};
        for (int k : none) {
            due.is("selected " + k, desk.server.selected(k), BeanServer.NONE);
        }
        due.is("a second select", desk.select("d:*", -1), 1);
        due.is("takes the first one's place", desk.selection(), "2 ");
    }

    private static void hasForm(String pattern, String form) {
        Desk desk = new Desk();
        desk.select(pattern, -1);
        due.is("form of " + pattern, desk.form(2, 0), form);
        due.is("n doesn't count", desk.form(2, -77), form);
        due.is("length", desk.server.form(2, Integer.MAX_VALUE, -1), form.length());
        due.is("behind the last", desk.server.form(2, 0, form.length()), BeanServer.NONE);
        due.is("k -2", desk.server.form(2, 0, -2), BeanServer.NONE);
    }

    private static void formOfPatterns() {
        hasForm("*:*", "*:*");
        hasForm(":*", ":*");
        hasForm("a?*:b=*,a=?", "a?*:a=?,b=*");
        hasForm("x:z=1,y=2,*", "x:y=2,z=1,*");
        hasForm("x:c=1*,a=*,b=???,*", "x:a=*,b=???,c=1*,*");
        hasForm(":q=1", ":q=1");
        hasForm("x:a=*,*", "x:a=*,*");
        Desk desk = new Desk();
        desk.select("a:*", -1);
        desk.select("b:d=1,c=1", -1);
        due.is("form of the latest", desk.form(2, 0), "b:c=1,d=1");
    }
}
