/** "Terms": PATTERN, and promises 11 and 12: select, selected. */
public final class PatternsTest {
    private static final Due due = new Due();

    public static void main(String[] args) {
        domainPatternLength();
        domainPatternCharacters();
        colon();
        starAlone();
        propertyPatternsWithCommas();
        starBehindThem();
        keys();
        noKeyTwice();
        valuePatternLength();
        valuePatternCharacters();
        questionMark();
        star();
        othersStandForThemselves();
        starsAndQuestionMarksTogether();
        domainAsThePatternSays();
        eachKeyOfThePattern();
        noOtherKeysUnlessOpen();
        formOfPatterns();
        selectCountsByNumber();
        selectByQuery();
        selectWithoutSuchQuery();
        selectRefusedChangesNothing();
        selectedPlaces();
        selectedStays();
        due.end();
    }

    private static void isPattern(String text, boolean isPattern) {
        Desk desk = new Desk();
        due.is("select " + text, desk.select(text, -1), isPattern ? 0 : BeanServer.BAD);
        due.is("form after " + text, desk.form(2, 0, -1), isPattern ? text.length() : BeanServer.NONE);
    }

    private static void fits(String pattern, String name, boolean fits) {
        Desk desk = new Desk();
        desk.register(name);
        due.is("select " + pattern + " of " + name, desk.select(pattern, -1), fits ? 1 : 0);
        due.is("selected by " + pattern + " of " + name, desk.selected(0), fits ? 0 : BeanServer.NONE);
    }

    private static boolean isLetter(char c) {
        return c >= 'a' && c <= 'z';
    }

    private static boolean isPatternCharacter(char c) {
        return isLetter(c) || c >= '0' && c <= '9' || c == '?' || c == '*';
    }

    private static void domainPatternLength() {
        due.by("a domain pattern (0 to 6 characters)");
        for (int length = 0; length <= 8; length++) {
            isPattern("abcdefgh".substring(0, length) + ":*", length <= 6);
            isPattern("*?*?*?*?".substring(0, length) + ":k=v", length <= 6);
        }
    }

    private static void domainPatternCharacters() {
        due.by("a domain pattern (.. characters a .. z, 0 .. 9, ?, *)");
        for (char c = 32; c <= 126; c++) {
            isPattern("a" + c + "b:k=v", isPatternCharacter(c));
            isPattern(c + ":k=v", isPatternCharacter(c));
        }
    }

    private static void colon() {
        due.by("A PATTERN is a domain pattern, :, and a list");
        for (char c = 32; c <= 126; c++) {
            isPattern("a" + c + "k=v", c == ':');
        }
        String[] none = {"", "a", "*", "**", ":", "a:", "a::*", "*:", "?", "a*"};
        for (String text : none) {
            isPattern(text, false);
        }
    }

    private static void starAlone() {
        due.by("a list: * alone");
        isPattern("a:*", true);
        isPattern(":*", true);
        String[] none = {"a:**", "a:*,", "a:*,*", "a:*,k=v", "a:*k=v", "a:,*", "a:?", "a:*=v", "a:* ", "a: *", "a:*:"};
        for (String text : none) {
            isPattern(text, false);
        }
        fits("a:*", "a:k=v", true);
        fits("a:*", "a:k=v,l=w,m=x", true);
        fits("b:*", "a:k=v", false);
    }

    private static void propertyPatternsWithCommas() {
        due.by("one or more property patterns with , between them");
        for (char c = 32; c <= 126; c++) {
            isPattern("a:b=1234" + c + "c=2", c == ',');
        }
        String[] none = {"a:,b=1", "a:b=1,", "a:b=1,,c=2", "a:b=1,c", "a:b=1,c=", "a:b=1,=2"};
        for (String text : none) {
            isPattern(text, false);
        }
        StringBuilder list = new StringBuilder();
        for (char key = 'a'; key < 'p'; key++) {
            list.append(key == 'a' ? "" : ",").append(key).append("=1");
            isPattern(":" + list, true);
        }
    }

    private static void starBehindThem() {
        due.by("perhaps with ,* behind them");
        isPattern("a:b=1,*", true);
        isPattern("a:b=1,c=2,*", true);
        isPattern(":a=1,b=1,c=1,d=1,e=1,f=1,g=1,h=1,i=1,j=1,k=1,l=1,m=1,n=1,*", true);
        String[] none = {"a:b=1,*,", "a:b=1,*,*", "a:b=1,*,c=2", "a:b=1,**", "a:b=1,*=2", "a:b=1,?", "a:b=1,*c=2", "a:b=1;*",
            "a:b=1,* ", "a:b=,*", "a:b,*", "a:b=12345,*"};
        for (String text : none) {
            isPattern(text, false);
        }
    }

    private static void keys() {
        due.by("A property pattern is a key, = , and a value pattern");
        for (char c = 32; c <= 126; c++) {
            isPattern("a:" + c + "=v", isLetter(c));
            isPattern("a:k" + c + "v", c == '=');
        }
        String[] none = {"a:=v", "a:kk=v", "a:k", "a:k==v", "a:k=v=w", "a:?=v", "a:*=v"};
        for (String text : none) {
            isPattern(text, false);
        }
    }

    private static void noKeyTwice() {
        due.by("A property pattern: no key comes twice");
        String[] none = {"a:k=1,k=2", "a:k=*,k=*", "a:k=1,j=2,k=3", "a:k=1,k=1,*", "*:a=1,b=2,c=3,a=?,*"};
        for (String text : none) {
            isPattern(text, false);
        }
        isPattern("a:j=1,k=1", true);
    }

    private static void valuePatternLength() {
        due.by("a value pattern (1 to 4 characters)");
        for (int length = 0; length <= 6; length++) {
            boolean right = length >= 1 && length <= 4;
            isPattern("a:k=" + "abcdef".substring(0, length), right);
            isPattern("a:k=" + "*?*?*?".substring(0, length), right);
            isPattern("a:k=" + "??????".substring(0, length) + ",*", right);
        }
    }

    private static void valuePatternCharacters() {
        due.by("a value pattern (.. characters a .. z, 0 .. 9, ?, *)");
        for (char c = 32; c <= 126; c++) {
            isPattern("a:k=" + c, isPatternCharacter(c));
            isPattern("a:k=1" + c + "2", isPatternCharacter(c));
        }
    }

    private static void questionMark() {
        due.by("? stands for one character of any kind");
        for (char c = 32; c <= 126; c++) {
            if (isLetter(c) || c >= '0' && c <= '9') {
                fits("?:k=?", c + ":k=" + c, true);
                fits("a?b:k=a?b", "a" + c + "b:k=a" + c + "b", true);
            }
        }
        for (int marks = 0; marks <= 6; marks++) {
            for (int length = 1; length <= 6; length++) {
                fits("??????".substring(0, marks) + ":*", "abcdef".substring(0, length) + ":k=v", marks == length);
            }
        }
        for (int marks = 1; marks <= 4; marks++) {
            for (int length = 1; length <= 4; length++) {
                fits("a:k=" + "????".substring(0, marks), "a:k=" + "wxyz".substring(0, length), marks == length);
            }
        }
    }

    private static void star() {
        due.by("* for any row of characters, also an empty one");
        for (int length = 1; length <= 6; length++) {
            String domain = "abcdef".substring(0, length);
            fits("*:*", domain + ":k=v", true);
            fits("******:*", domain + ":k=v", true);
            fits("a*:*", domain + ":k=v", true);
            fits("*a*:*", domain + ":k=v", true);
            fits("*f:*", domain + ":k=v", length == 6);
            fits("a*f:*", domain + ":k=v", length == 6);
        }
        for (int length = 1; length <= 4; length++) {
            String value = "wxyz".substring(0, length);
            fits("a:k=*", "a:k=" + value, true);
            fits("a:k=****", "a:k=" + value, true);
            fits("a:k=w*", "a:k=" + value, true);
            fits("a:k=*w", "a:k=" + value, length == 1);
            fits("a:k=*z*", "a:k=" + value, length == 4);
        }
    }

    private static void othersStandForThemselves() {
        due.by("the others for themselves");
        fits(":*", "a:k=v", false);
        fits("ab:*", "ab:k=v", true);
        fits("ab:*", "abc:k=v", false);
        fits("abc:*", "ab:k=v", false);
        fits("ab:*", "ac:k=v", false);
        fits("bb:*", "ab:k=v", false);
        fits("abcdef:k=wxyz", "abcdef:k=wxyz", true);
        fits("abcdef:k=wxyz", "abcdef:k=wxya", false);
        fits("a:k=1", "a:k=1", true);
        fits("a:k=1", "a:k=2", false);
        fits("a:k=1", "a:k=11", false);
        fits("a:k=11", "a:k=1", false);
        fits("a:k=01", "a:k=1", false);
    }

    private static void starsAndQuestionMarksTogether() {
        due.by("? stands for one character of any kind, * for any row of characters");
        fits("*ab*:*", "aaab:a=1", true);
        fits("*ab*:*", "ababa:a=1", true);
        fits("*aab*:*", "aaaab:a=1", true);
        fits("*aab*:*", "abab:a=1", false);
        fits("a*b*c:*", "abc:a=1", true);
        fits("a*b*c:*", "abcbcc:a=1", true);
        fits("a*b*c:*", "acb:a=1", false);
        fits("a*a:*", "a:a=1", false);
        fits("a*a:*", "aa:a=1", true);
        fits("*?:*", "a:a=1", true);
        fits("?*?:*", "a:a=1", false);
        fits("?*?:*", "ab:a=1", true);
        fits("*?*?*:*", "abc:a=1", true);
        fits("*????*:*", "abc:a=1", false);
        fits("*????*:*", "abcd:a=1", true);
        fits("a:a=*x*y", "a:a=xxy", true);
        fits("a:a=*x*y", "a:a=yx", false);
        fits("a:a=w?y*", "a:a=wxyz", true);
        fits("a:a=?*?", "a:a=w", false);
        fits("a:a=*?x", "a:a=x", false);
        fits("a:a=*?x", "a:a=xxx", true);
    }

    private static void domainAsThePatternSays() {
        due.by("A name FITS if its domain is as the domain pattern says");
        String[] lists = {"*", "k=v", "k=?", "k=*,*"};
        for (String list : lists) {
            fits("shop:" + list, "shop:k=v", true);
            fits("s*p:" + list, "shop:k=v", true);
            fits("s??p:" + list, "shop:k=v", true);
            fits("shop:" + list, "shop1:k=v", false);
            fits("s*p:" + list, "spa:k=v", false);
            fits("s??p:" + list, "shp:k=v", false);
            fits(":" + list, "shop:k=v", false);
        }
    }

    private static void eachKeyOfThePattern() {
        due.by("each key of the pattern is one of its keys, with a value as the value pattern says");
        fits("a:a=1,b=2", "a:a=1,b=2", true);
        fits("a:b=2,a=1", "a:a=1,b=2", true);
        fits("a:a=1,b=2", "a:b=2,a=1", true);
        fits("a:a=1,b=2", "a:a=1", false);
        fits("a:a=1,b=2,*", "a:a=1", false);
        fits("a:a=1,b=2,*", "a:b=2,c=1", false);
        fits("a:a=1,b=2,*", "a:c=3,b=2,a=1", true);
        fits("a:a=1,b=3,*", "a:c=3,b=2,a=1", false);
        fits("a:a=2,b=1", "a:a=1,b=2", false);
        fits("a:b=1", "a:a=1", false);
        fits("a:z=*", "a:a=1", false);
        fits("a:z=?,*", "a:a=1,z=2", true);
        fits("b:a=1,*", "a:a=1", false);
    }

    private static void noOtherKeysUnlessOpen() {
        due.by("(both lists with a * are OPEN) .. if the list isn't open, it has no other keys");
        fits("a:a=1", "a:a=1,b=2", false);
        fits("a:a=1,*", "a:a=1,b=2", true);
        fits("a:a=1,*", "a:a=1", true);
        fits("a:b=2", "a:a=1,b=2", false);
        fits("a:b=2,*", "a:a=1,b=2", true);
        fits("a:a=*", "a:a=1,z=2", false);
        fits("a:z=*", "a:a=1,z=2", false);
        fits("a:a=1*", "a:a=1,b=2", false);
        fits("*:*", "a:a=1,b=2,c=3,z=4", true);
    }

    private static void hasForm(String pattern, String form) {
        Desk desk = new Desk();
        desk.select(pattern, -1);
        due.is("form of " + pattern, desk.form(2, 0), form);
    }

    private static void formOfPatterns() {
        due.by("the pattern with its property patterns ordered by key (,* stays at the end)");
        hasForm("*:*", "*:*");
        hasForm(":*", ":*");
        hasForm(":q=1", ":q=1");
        hasForm("a?*:b=*,a=?", "a?*:a=?,b=*");
        hasForm("x:z=1,y=2,*", "x:y=2,z=1,*");
        hasForm("x:y=2,z=1,*", "x:y=2,z=1,*");
        hasForm("x:c=1*,a=*,b=???,*", "x:a=*,b=???,c=1*,*");
        hasForm("x:a=*,*", "x:a=*,*");
        hasForm(":o=1,n=1,m=1,l=1,k=1,j=1,i=1,h=1,g=1,f=1,e=1,d=1,c=1,b=1,a=1",
            ":a=1,b=1,c=1,d=1,e=1,f=1,g=1,h=1,i=1,j=1,k=1,l=1,m=1,n=1,o=1");
    }

    /** Beans 0 to 11 are even:n=0, odd:n=1 and so on; attribute a is the number, but bean 4 hasn't any. */
    private static Desk withTwelve() {
        Desk desk = new Desk();
        for (int i = 0; i < 12; i++) {
            desk.register((i % 2 == 0 ? "even" : "odd") + ":n=" + i);
            if (i != 4) {
                desk.set(i, 0, i);
            }
        }
        return desk;
    }

    private static void selectCountsByNumber() {
        due.by("select: (query -1: all whose names fit) are SELECTED: how many");
        Desk desk = withTwelve();
        due.is("all", desk.select("*:*", -1), 12);
        due.is("all, by number", desk.selection(), "0 1 2 3 4 5 6 7 8 9 10 11 ");
        due.is("even", desk.select("even:*", -1), 6);
        due.is("even, by number", desk.selection(), "0 2 4 6 8 10 ");
        due.is("none", desk.select("none:*", -1), 0);
        due.is("none is selected", desk.selection(), "");
        desk.unregister("even:n=0");
        desk.register("odd:n=0");
        due.is("odd", desk.select("o*:n=?", -1), 6);
        due.is("by number, not by age", desk.selection(), "0 1 3 5 7 9 ");
        due.is("no notices of these", desk.listen(63), 14);
    }

    private static void selectByQuery() {
        due.by("select: the beans whose names fit and for which the query is true");
        Desk desk = withTwelve();
        desk.define("a>2");
        desk.define("a=a");
        desk.define("a/a=1|1=1");
        desk.define("1=1");
        desk.define("1=2");
        desk.define("1/0=0");
        due.is("even and a>2", desk.select("even:*", 0), 3);
        due.is("what fails isn't selected", desk.selection(), "6 8 10 ");
        due.is("odd and a>2", desk.select("odd:n=?", 0), 4);
        due.is("odd and a>2, by number", desk.selection(), "3 5 7 9 ");
        due.is("a=a", desk.select("*:*", 1), 11);
        due.is("division by 0 fails", desk.select("*:*", 2), 10);
        due.is("division by 0, by number", desk.selection(), "1 2 3 5 6 7 8 9 10 11 ");
        due.is("always true", desk.select("*:n=1?", 3), 2);
        due.is("always true, by number", desk.selection(), "10 11 ");
        due.is("always false", desk.select("*:*", 4), 0);
        due.is("nothing is selected", desk.selection(), "");
        due.is("always failing", desk.select("*:*", 5), 0);
    }

    private static void selectWithoutSuchQuery() {
        due.by("select: NONE: query isn't -1 and there is no such query; BAD: it is no pattern");
        int[] noQueries = {-2, 1, 5, 6, Integer.MIN_VALUE, Integer.MAX_VALUE};
        for (int query : noQueries) {
            Desk desk = new Desk();
            desk.define("1=1");
            due.is("query " + query, desk.select("*:*", query), BeanServer.NONE);
            due.is("NONE before BAD, query " + query, desk.select("*", query), BeanServer.NONE);
            due.is("NONE before BAD, an empty buffer", desk.select(query), BeanServer.NONE);
        }
        Desk desk = new Desk();
        due.is("query 0 before there is one", desk.select("*:*", 0), BeanServer.NONE);
        desk.define("1=1");
        due.is("query 0", desk.select("*:*", 0), 0);
        due.is("BAD with query 0", desk.select("*", 0), BeanServer.BAD);
        due.is("BAD with query -1", desk.select("*", -1), BeanServer.BAD);
    }

    private static void selectRefusedChangesNothing() {
        due.by("the pattern of the latest select that was not refused");
        Desk desk = new Desk();
        desk.register("a:a=1");
        desk.register("b:a=1");
        desk.select("b:*", -1);
        desk.select("a", -1);
        due.is("selected after BAD", desk.selection(), "1 ");
        due.is("form after BAD", desk.form(2, 0), "b:*");
        desk.select("a:*", 0);
        due.is("selected after NONE", desk.selection(), "1 ");
        due.is("form after NONE", desk.form(2, 0), "b:*");
        due.is("one that selects nothing isn't refused", desk.select("c:z=1,y=1", -1), 0);
        due.is("form after it", desk.form(2, 0), "c:y=1,z=1");
    }

    private static void selectedPlaces() {
        due.by("The number of the k-th selected bean (from 0), by number; NONE if there is none.");
        Desk desk = withTwelve();
        due.is("before the first select", desk.selected(0), BeanServer.NONE);
        desk.select("odd:*", -1);
        for (int k = 0; k < 6; k++) {
            due.is("selected " + k, desk.selected(k), 2 * k + 1);
        }
        int[] none = {-1, -2, 6, 7, 11, 12, Integer.MIN_VALUE, Integer.MAX_VALUE};
        for (int k : none) {
            due.is("selected " + k, desk.selected(k), BeanServer.NONE);
        }
        desk.select("*:*", -1);
        due.is("selected 11 of 12", desk.selected(11), 11);
        due.is("selected 12 of 12", desk.selected(12), BeanServer.NONE);
        desk.select("even:n=8", -1);
        due.is("selected 0 of 1", desk.selected(0), 8);
        due.is("selected 1 of 1", desk.selected(1), BeanServer.NONE);
    }

    private static void selectedStays() {
        due.by("(It stays selected, whatever becomes of it.)");
        Desk desk = new Desk();
        desk.register("a:a=1");
        desk.register("b:a=1");
        desk.set(1, 0, 5);
        desk.define("a=5");
        desk.select("*:*", 0);
        desk.set(1, 0, 6);
        due.is("a bean for which the query is no longer true", desk.selection(), "1 ");
        desk.select("*:*", -1);
        desk.unregister("a:a=1");
        due.is("a bean that is gone", desk.selection(), "0 1 ");
        desk.register("c:a=1");
        desk.register("d:a=1");
        due.is("a new bean isn't selected", desk.selection(), "0 1 ");
        due.is("a second select", desk.select("d:*", -1), 1);
        due.is("takes the first one's place", desk.selection(), "2 ");
    }
}
