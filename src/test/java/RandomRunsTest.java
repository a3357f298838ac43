import java.util.ArrayList;
import java.util.Collections;
import java.util.List;
import java.util.Random;

/** Runs of 512 random calls, the same each time, on the program and on the model: both answer the same. */
public final class RandomRunsTest {
    private static final int RUNS = 3000;
    private static final int CALLS = 512;
    private static final int[] EDGES = {0, 1, -1, 2, 5, 6, 7, 11, 12, 100, Integer.MAX_VALUE, Integer.MAX_VALUE - 1,
        Integer.MIN_VALUE, Integer.MIN_VALUE + 1};

    private final Due due;
    private final Random random;
    /** Whether texts are short: then more of the 512 calls are left to fill the server. */
    private final boolean brief;
    private final BeanServer server = new BeanServer();
    private final Model model = new Model();
    private final StringBuilder calls = new StringBuilder();
    private int left = CALLS;

    private RandomRunsTest(Due due, long seed) {
        this.due = due;
        this.random = new Random(seed);
        this.brief = seed % 2 == 0;
    }

    public static void main(String[] args) {
        Due due = new Due();
        for (int seed = 1; seed <= RUNS && due.allRight(); seed++) {
            RandomRunsTest run = new RandomRunsTest(due, seed);
            run.run();
            if (!due.allRight()) {
                System.out.println("run " + seed + ":" + run.calls);
            }
        }
        due.end();
    }

    private void run() {
        while (left > 0 && due.allRight()) {
            switch (random.nextInt(12)) {
                case 0, 1 -> takeName();
                case 2, 3 -> changeAttribute();
                case 4 -> define();
                case 5 -> check();
                case 6 -> select();
                case 7 -> readForm();
                case 8 -> newMonitor();
                case 9, 10 -> observe();
                default -> readLog();
            }
        }
    }

    private void is(String call, long got, long want) {
        if (left > 0) {
            calls.append(' ').append(call);
            due.is(call, got, want);
        }
        left--;
    }

    private static long number(boolean answer) {
        return answer ? 1 : 0;
    }

    private void write(String text) {
        for (char c : text.toCharArray()) {
            is("write " + c, number(server.write(c)), number(model.write(c)));
        }
    }

    private void takeName() {
        write(spoilt(nameText(false)));
        switch (random.nextInt(5)) {
            case 0 -> is("unregister", server.unregister(), model.unregister());
            case 1 -> is("find", server.find(), model.find());
            default -> is("register", server.register(), model.register());
        }
    }

    private void changeAttribute() {
        int bean = bean();
        int attribute = attribute();
        int v = value();
        switch (random.nextInt(8)) {
            case 0 -> is("unset", number(server.unset(bean, attribute)), number(model.unset(bean, attribute)));
            case 1 -> is("get", server.get(bean, attribute), model.get(bean, attribute));
            default -> is("set", number(server.set(bean, attribute, v)), number(model.set(bean, attribute, v)));
        }
    }

    private void define() {
        write(spoilt(brief ? oneText(0) : queryText(3)));
        is("define", server.define(), model.define());
        readWholeForm(1, query());
    }

    private void check() {
        int query = query();
        int bean = bean();
        is("check", server.check(query, bean), model.check(query, bean));
    }

    private void select() {
        write(spoilt(nameText(true)));
        int query = random.nextBoolean() ? -1 : query();
        is("select", server.select(query), model.select(query));
        int last = random.nextInt(4);
        for (int k = -1; k < last; k++) {
            is("selected", server.selected(k), model.selected(k));
        }
        readWholeForm(2, 0);
    }

    private void readForm() {
        int what = random.nextInt(5) - 1;
        int n = bean();
        int k = random.nextInt(4) == 0 ? value() : random.nextInt(20) - 2;
        is("form", server.form(what, n, k), model.form(what, n, k));
    }

    private void readWholeForm(int what, int n) {
        if (random.nextInt(3) == 0) {
            int length = model.form(what, n, -1);
            for (int k = -1; k <= length; k++) {
                is("form " + what + " " + n + " " + k, server.form(what, n, k), model.form(what, n, k));
            }
        }
    }

    private void newMonitor() {
        int bean = bean();
        int attribute = attribute();
        int first = value();
        int second = random.nextInt(4) == 0 ? value() : random.nextInt(12);
        switch (random.nextInt(5)) {
            case 0 -> is("cancel", number(server.cancel(second)), number(model.cancel(second)));
            case 1, 2 -> is("gauge", server.gauge(bean, attribute, first, second), model.gauge(bean, attribute, first, second));
            default -> is("counter", server.counter(bean, attribute, first, second),
                model.counter(bean, attribute, first, second));
        }
    }

    private void observe() {
        is("observe", server.observe(), model.observe());
        int monitor = random.nextInt(8) - 1;
        is("mark", server.mark(monitor), model.mark(monitor));
    }

    private void readLog() {
        if (random.nextInt(6) == 0) {
            int kinds = random.nextInt(3) == 0 ? random.nextInt() : 63;
            is("listen", server.listen(kinds), model.listen(kinds));
        }
        int k = random.nextInt(19) - 1;
        for (int what = -1; what < 5; what++) {
            is("notice", server.notice(k, what), model.notice(k, what));
        }
    }

    /** Mostly one of the first few, so that calls meet what is there. */
    private int bean() {
        return random.nextInt(20) == 0 ? EDGES[random.nextInt(EDGES.length)] : random.nextInt(brief ? 12 : 4);
    }

    private int query() {
        return random.nextInt(20) == 0 ? EDGES[random.nextInt(EDGES.length)] : random.nextInt(3);
    }

    private int attribute() {
        return random.nextInt(20) == 0 ? EDGES[random.nextInt(EDGES.length)] : random.nextInt(5);
    }

    private int value() {
        return random.nextInt(6) == 0 ? EDGES[random.nextInt(EDGES.length)] : random.nextInt(16) - 3;
    }

    private String oneOf(String... texts) {
        return texts[random.nextInt(texts.length)];
    }

    private String briefNameText(boolean isPattern) {
        if (isPattern) {
            return oneOf("*:*", "?:*", "a:*", "?:k=?", "*:b=*,*", ":*");
        }
        return oneOf("a:", "b:") + oneOf("k=", "b=") + oneOf("0", "1", "2", "3", "4");
    }

    private String nameText(boolean isPattern) {
        if (brief) {
            return briefNameText(isPattern);
        }
        String domain = isPattern ? oneOf("*", "?", "a*", "*b", "?*", "a", "ab", "*?b*", "") : oneOf("a", "ab", "b");
        List<String> properties = new ArrayList<>();
        for (String key : List.of("k", "b", "z")) {
            if (random.nextInt(3) == 0) {
                properties.add(key + "=" + (isPattern ? oneOf("*", "?", "x", "*x", "x*", "??", "xy") : oneOf("x", "xy", "yx")));
            }
        }
        Collections.shuffle(properties, random);
        if (isPattern && random.nextBoolean()) {
            properties.add("*");
        }
        if (properties.isEmpty()) {
            properties.add("k=x");
        }
        return domain + ":" + String.join(",", properties);
    }

    private String queryText(int depth) {
        List<String> alls = new ArrayList<>();
        do {
            List<String> ones = new ArrayList<>();
            do {
                ones.add(oneText(depth));
            } while (random.nextInt(3) == 0);
            alls.add(String.join("&", ones));
        } while (random.nextInt(3) == 0);
        return String.join("|", alls);
    }

    private String oneText(int depth) {
        int kind = depth == 0 ? 4 : random.nextInt(5);
        if (kind < 2) {
            return "(" + queryText(depth - 1) + ")";
        }
        if (kind == 2) {
            return "!" + oneText(depth - 1);
        }
        return valueText() + oneOf("=", "<", ">", "#") + valueText();
    }

    private String valueText() {
        StringBuilder value = new StringBuilder(unitText());
        while (random.nextInt(4) == 0) {
            value.append(oneOf("+", "-", "*", "/")).append(unitText());
        }
        return value.toString();
    }

    private String unitText() {
        return oneOf("a", "b", "c", "d", "e", "a", "b", "0", "1", "2", "00", "007", "10", "9999", "0100");
    }

    /** Now and then the text with a character too many, too few or changed. */
    private String spoilt(String text) {
        if (random.nextInt(6) != 0) {
            return text;
        }
        int at = random.nextInt(text.length());
        String other = oneOf("*", "?", ",", ":", "=", "a", "9", "(", ")", "!", "&", "|", "k", " ", "\n", "~", "");
        return text.substring(0, at) + other + text.substring(at + random.nextInt(2));
    }
}
