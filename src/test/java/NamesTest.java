/** "Terms": NAME, BEANS, and promises 3 to 5: register, unregister, find. */
public final class NamesTest {
    private static final Due due = new Due();

    public static void main(String[] args) {
        domainLength();
        domainCharacters();
        colon();
        oneOrMoreProperties();
        commasBetween();
        keys();
        noKeyTwice();
        valueLength();
        valueCharacters();
        wildcardsAreForPatterns();
        formIsOrderedByKey();
        sameIfTheirFormsAre();
        registerGivesTheLowestFreeNumber();
        registerTakesTwelve();
        registerGivesANotice();
        unregisterTakesTheBean();
        unregisterRefuses();
        findTellsTheNumber();
        findRefuses();
        due.end();
    }

    /** Whether each of the calls that take a name takes this text as one. */
    private static void isName(String text, boolean isName) {
        Desk desk = new Desk();
        due.is("find " + text, desk.find(text), isName ? BeanServer.NONE : BeanServer.BAD);
        due.is("unregister " + text, desk.unregister(text), isName ? BeanServer.NONE : BeanServer.BAD);
        due.is("register " + text, desk.register(text), isName ? 0 : BeanServer.BAD);
        due.is("notices of " + text, desk.listen(63), isName ? 1 : 0);
        due.is("find it, " + text, desk.find(text), isName ? 0 : BeanServer.BAD);
        due.is("unregister it, " + text, desk.unregister(text), isName ? 0 : BeanServer.BAD);
    }

    private static boolean isLetter(char c) {
        return c >= 'a' && c <= 'z';
    }

    private static boolean isLetterOrDigit(char c) {
        return isLetter(c) || c >= '0' && c <= '9';
    }

    private static void domainLength() {
        due.by("A domain is 1 to 6 characters");
        for (int length = 0; length <= 8; length++) {
            isName("abcdefgh".substring(0, length) + ":k=v", length >= 1 && length <= 6);
        }
    }

    private static void domainCharacters() {
        due.by("A domain is .. characters a .. z, 0 .. 9");
        for (char c = 32; c <= 126; c++) {
            isName(c + ":k=v", isLetterOrDigit(c));
            isName("a" + c + "b:k=v", isLetterOrDigit(c));
        }
    }

    private static void colon() {
        due.by("A NAME is a domain, :, and one or more PROPERTIES");
        for (char c = 32; c <= 126; c++) {
            isName("a" + c + "k=v", c == ':');
        }
        isName("a::k=v", false);
        isName("ak=v", false);
        isName("a", false);
        isName("", false);
        isName(":", false);
    }

    private static void oneOrMoreProperties() {
        due.by("one or more PROPERTIES");
        isName("a:", false);
        StringBuilder list = new StringBuilder();
        for (int i = 0; i < 14; i++) {
            list.append(i == 0 ? "" : ",").append((char) ('z' - i)).append("=1");
            isName("a:" + list, true);
        }
    }

    private static void commasBetween() {
        due.by("PROPERTIES with , between them");
        for (char c = 32; c <= 126; c++) {
            isName("a:b=1234" + c + "c=2", c == ',');
        }
        isName("a:,b=1", false);
        isName("a:b=1,", false);
        isName("a:b=1,,c=2", false);
        isName("a:b=1,c", false);
        isName("a:b=1,c=", false);
        isName("a:b=1,=2", false);
    }

    private static void keys() {
        due.by("a property is a KEY (a .. z), = , and a value");
        for (char c = 32; c <= 126; c++) {
            isName("a:" + c + "=v", isLetter(c));
            isName("a:k" + c + "v", c == '=');
        }
        isName("a:=v", false);
        isName("a:kk=v", false);
        isName("a:k", false);
        isName("a:k==v", false);
        isName("a:k=v=w", false);
    }

    private static void noKeyTwice() {
        due.by("no key comes twice");
        isName("a:k=1,k=2", false);
        isName("a:k=1,k=1", false);
        isName("a:k=1,j=2,k=3", false);
        isName("a:a=1,b=2,c=3,d=4,z=5,e=6,z=5", false);
        isName("a:a=1,b=2,a=1", false);
        isName("a:k=1,j=1", true);
        isName("k:k=k", true);
    }

    private static void valueLength() {
        due.by("a value (1 to 4 characters)");
        for (int length = 0; length <= 6; length++) {
            String value = "123456".substring(0, length);
            isName("a:k=" + value, length >= 1 && length <= 4);
            isName("a:k=" + value + ",l=1", length >= 1 && length <= 4);
            isName("a:l=1,k=" + value, length >= 1 && length <= 4);
        }
    }

    private static void valueCharacters() {
        due.by("a value (.. characters a .. z, 0 .. 9)");
        for (char c = 32; c <= 126; c++) {
            isName("a:k=" + c, isLetterOrDigit(c));
            isName("a:k=1" + c + "2", isLetterOrDigit(c));
        }
    }

    private static void wildcardsAreForPatterns() {
        due.by("BAD: it is no name");
        String[] patterns = {"a:*", "a:k=v,*", "*:k=v", "?:k=v", "a?:k=v", "a:k=*", "a:k=v?", ":k=v", ":*", "*:*"};
        for (String pattern : patterns) {
            isName(pattern, false);
        }
    }

    private static void hasForm(String name, String form) {
        Desk desk = new Desk();
        desk.register(name);
        due.is("form of " + name, desk.form(0, 0), form);
    }

    private static void formIsOrderedByKey() {
        due.by("The FORM of a name is the name with its properties ordered by key.");
        hasForm("a:b=1", "a:b=1");
        hasForm("a:b=1,c=2", "a:b=1,c=2");
        hasForm("a:c=2,b=1", "a:b=1,c=2");
        hasForm("dom:z=1,a=22,m=333,b=4444", "dom:a=22,b=4444,m=333,z=1");
        hasForm("a:b=z,a=9,c=0", "a:a=9,b=z,c=0");
        hasForm("z9:n=1,m=1,l=1,k=1,j=1,i=1,h=1,g=1,f=1,e=1,d=1,c=1,b=1,a=1",
            "z9:a=1,b=1,c=1,d=1,e=1,f=1,g=1,h=1,i=1,j=1,k=1,l=1,m=1,n=1");
        hasForm("a:z=1,y=1,x=1,w=1,v=1,u=1,t=1,s=1,r=1,q=1,p=1,o=1,n=1,m=1",
            "a:m=1,n=1,o=1,p=1,q=1,r=1,s=1,t=1,u=1,v=1,w=1,x=1,y=1,z=1");
    }

    private static void sameIfTheirFormsAre() {
        due.by("Two names are the same if their forms are.");
        String[] same = {"a:a=2,b=1,c=3", "a:a=2,c=3,b=1", "a:b=1,a=2,c=3", "a:b=1,c=3,a=2", "a:c=3,a=2,b=1", "a:c=3,b=1,a=2"};
        for (String name : same) {
            Desk desk = new Desk();
            desk.register("a:b=1,a=2,c=3");
            due.is("register " + name, desk.register(name), BeanServer.EXISTS);
            due.is("find " + name, desk.find(name), 0);
            due.is("unregister " + name, desk.unregister(name), 0);
        }
        String[] others = {"b:a=2,b=1,c=3", "aa:a=2,b=1,c=3", "a:a=1,b=2,c=3", "a:a=2,b=1", "a:a=2,b=1,c=3,d=4",
            "a:a=2,b=1,c=33", "a:a=2,b=1,d=3", "a:a=2,b=1,c=4", "a:a=2"};
        for (String name : others) {
            Desk desk = new Desk();
            desk.register("a:b=1,a=2,c=3");
            due.is("find " + name, desk.find(name), BeanServer.NONE);
            due.is("unregister " + name, desk.unregister(name), BeanServer.NONE);
            due.is("register " + name, desk.register(name), 1);
        }
    }

    private static Desk withTwelve() {
        Desk desk = new Desk();
        for (int i = 0; i < 12; i++) {
            due.is("register " + i, desk.register("a:a=" + i), i);
        }
        return desk;
    }

    private static void registerGivesTheLowestFreeNumber() {
        due.by("BEANS 0 .. 11: a new one gets the lowest number that is free");
        for (int first = 0; first < 12; first++) {
            for (int second = 0; second < 12; second++) {
                if (first != second) {
                    Desk desk = withTwelve();
                    desk.unregister("a:a=" + first);
                    desk.unregister("a:a=" + second);
                    due.is("the lower of " + first + ", " + second, desk.register("b:a=1"), Math.min(first, second));
                    due.is("the other of " + first + ", " + second, desk.register("b:a=2"), Math.max(first, second));
                    due.is("no third", desk.register("b:a=3"), BeanServer.FULL);
                }
            }
        }
        Desk desk = new Desk();
        desk.register("a:a=1");
        desk.unregister("a:a=1");
        due.is("the only one goes and comes", desk.register("a:a=2"), 0);
    }

    private static void registerTakesTwelve() {
        due.by("FULL: 12 beans are there");
        Desk desk = withTwelve();
        due.is("the 13th", desk.register("a:a=12"), BeanServer.FULL);
        due.is("it isn't there", desk.find("a:a=12"), BeanServer.NONE);
        due.is("nor are there notices of it", desk.listen(63), 12);
        due.is("one goes", desk.unregister("a:a=11"), 11);
        due.is("now there is room", desk.register("a:a=12"), 11);
        due.is("and no more", desk.register("a:a=13"), BeanServer.FULL);
    }

    private static void registerGivesANotice() {
        due.by("register: the bean's number, and a notice REGISTERED");
        Desk desk = new Desk();
        desk.register("a:a=1");
        due.is("first notice", desk.notice(0), "1 0 0 0");
        desk.register("b:a=1");
        due.is("second notice", desk.notice(0), "2 0 1 0");
        desk.unregister("a:a=1");
        desk.register("c:a=1");
        due.is("fourth notice", desk.notice(0), "4 0 0 0");
    }

    private static void unregisterTakesTheBean() {
        due.by("the bean with the same name is gone, with its attributes, and a notice GONE: its number");
        Desk desk = new Desk();
        desk.register("x:a=1");
        desk.register("a:a=1");
        desk.set(0, 2, 6);
        desk.set(1, 2, 7);
        due.is("unregister", desk.unregister("a:a=1"), 1);
        due.is("GONE", desk.notice(0), "3 1 1 0");
        due.is("form", desk.form(0, 1), "none");
        due.is("get", desk.get(1, 2), 0);
        due.is("set", desk.set(1, 2, 1), false);
        due.is("find", desk.find("a:a=1"), BeanServer.NONE);
        due.is("unregister again", desk.unregister("a:a=1"), BeanServer.NONE);
        due.is("register again", desk.register("a:a=1"), 1);
        due.is("its attribute isn't back", desk.get(1, 2), 0);
        due.is("it is missing", desk.unset(1, 2), false);
        due.is("the other bean stays", desk.find("x:a=1"), 0);
        due.is("with its attribute", desk.get(0, 2), 6);
    }

    private static void unregisterRefuses() {
        due.by("unregister: BAD: it is no name; NONE: no bean has it");
        Desk desk = new Desk();
        desk.register("a:a=1");
        due.is("no name", desk.unregister("a:*"), BeanServer.BAD);
        due.is("no bean", desk.unregister("a:a=2"), BeanServer.NONE);
        due.is("the bean is there", desk.find("a:a=1"), 0);
        due.is("no notice", desk.listen(63), 1);
    }

    private static void findTellsTheNumber() {
        due.by("find: the number of the bean with the same name");
        Desk desk = withTwelve();
        for (int i = 11; i >= 0; i--) {
            due.is("find " + i, desk.find("a:a=" + i), i);
        }
        desk.unregister("a:a=4");
        desk.register("b:y=1,x=2");
        due.is("find a new one", desk.find("b:x=2,y=1"), 4);
        due.is("find gives no notice", desk.listen(63), 14);
    }

    private static void findRefuses() {
        due.by("find: BAD: it is no name; NONE: no bean has it");
        Desk desk = new Desk();
        desk.register("a:a=1");
        due.is("no name", desk.find("a:*"), BeanServer.BAD);
        due.is("no bean", desk.find("a:a=2"), BeanServer.NONE);
        desk.unregister("a:a=1");
        due.is("a bean that is gone", desk.find("a:a=1"), BeanServer.NONE);
    }
}
