import java.util.Map;
import java.util.Random;
import java.util.TreeMap;

/** Runs of 512 random calls, the same each time, on the program and on the model: both answer the same. */
public final class RandomRunsTest {
    private static final int RUNS = 4000;
    private static final int CALLS = 512;
    private static final int[] EDGES = {0, 1, -1, 2, 5, 6, 7, 11, 12, 100, Integer.MAX_VALUE, Integer.MAX_VALUE - 1,
        Integer.MIN_VALUE, Integer.MIN_VALUE + 1};

    /** Each answer that the document names, as the runs must have met it: a number of 0 or more counts as "0 ..". */
    private static final String[] ANSWERS = {
        "write true", "write false", "register 0 ..", "register BAD", "register EXISTS", "register FULL",
        "unregister 0 ..", "unregister BAD", "unregister NONE", "find 0 ..", "find BAD", "find NONE",
        "set true", "set false", "unset true", "unset false", "get 0 ..", "get below 0",
        "define 0 ..", "define BAD", "define FULL", "check 0", "check 1", "check 2", "check NONE",
        "select 0 ..", "select BAD", "select NONE", "selected 0 ..", "selected NONE", "form 0 ..", "form NONE",
        "counter 0 ..", "counter BAD", "counter NONE", "counter FULL",
        "gauge 0 ..", "gauge BAD", "gauge NONE", "gauge FULL", "cancel true", "cancel false", "observe 0 ..",
        "mark 0 ..", "mark below 0", "listen 0 ..", "notice 0 ..", "notice NONE",
        "kind 0", "kind 1", "kind 2", "kind 3", "kind 4", "kind 5"};
    private static final int OFTEN = 100;

    private static final Map<String, Integer> met = new TreeMap<>();

    private final Due due;
    private final Random random;
    private final RandomTexts texts;
    /** Whether each call is drawn by itself, so that others come while a text is being written. */
    private final boolean loose;
    private final boolean brief;
    private final BeanServer server = new BeanServer();
    private final Model model = new Model();
    private final StringBuilder calls = new StringBuilder();
    private int left = CALLS;
    private String rest = "";
    private int taker = 0;

    private RandomRunsTest(Due due, int seed) {
        this.due = due;
        this.random = new Random(seed);
        this.brief = seed % 2 == 0;
        this.loose = seed % 4 < 2;
        this.texts = new RandomTexts(random, brief);
    }

    public static void main(String[] args) {
        Due due = new Due();
        due.by("what the model answers");
        for (int seed = 1; seed <= RUNS && due.allRight(); seed++) {
            RandomRunsTest run = new RandomRunsTest(due, seed);
            run.run();
            if (!due.allRight()) {
                System.out.println("run " + seed + ":" + run.calls);
            }
        }
        due.by("the runs meet each answer that the document names");
        for (String answer : ANSWERS) {
            int times = met.getOrDefault(answer, 0);
            due.is(answer + ", met " + times + " times, often enough", times >= OFTEN, true);
        }
        due.end();
    }

    private void run() {
        while (left > 0 && due.allRight()) {
            if (loose) {
                writeOnOrCall();
            } else if (random.nextInt(12) < 4) {
                writeAndTake();
            } else {
                call();
            }
        }
    }

    private void is(String call, long got, long want) {
        if (left > 0) {
            calls.append(' ').append(call);
            due.is(call, got, want);
        }
        left--;
    }

    private void meet(String call, String answer) {
        met.merge(call + " " + answer, 1, Integer::sum);
    }

    private void isTruth(String call, boolean got, boolean want) {
        meet(call, Boolean.toString(want));
        is(call, got ? 1 : 0, want ? 1 : 0);
    }

    private void isCode(String call, int got, int want) {
        String[] codes = {"0 ..", "BAD", "NONE", "EXISTS", "FULL"};
        meet(call, codes[want >= 0 ? 0 : -want]);
        is(call, got, want);
    }

    private void isValue(String call, long got, long want) {
        meet(call, want < 0 ? "below 0" : "0 ..");
        is(call, got, want);
    }

    private void write(char c) {
        isTruth("write", server.write(c), model.write(c));
    }

    /** Begins a text for one of the calls that take one: mostly for register. */
    private void beginText() {
        taker = random.nextInt(7);
        rest = taker < 5 ? texts.name() : taker == 5 ? texts.query() : texts.pattern();
    }

    private void take() {
        switch (taker) {
            case 0 -> isCode("unregister", server.unregister(), model.unregister());
            case 1 -> isCode("find", server.find(), model.find());
            case 5 -> isCode("define", server.define(), model.define());
            case 6 -> select();
            default -> isCode("register", server.register(), model.register());
        }
    }

    private void select() {
        int query = random.nextBoolean() ? -1 : query();
        isCode("select", server.select(query), model.select(query));
    }

    private void writeAndTake() {
        beginText();
        for (char c : rest.toCharArray()) {
            write(c);
        }
        take();
        if (taker >= 5 && random.nextInt(3) == 0) {
            readWholeForm();
        }
    }

    /** A text may be taken before its end, and by a call that it isn't for. */
    private void writeOnOrCall() {
        if (rest.isEmpty()) {
            beginText();
        }
        if (random.nextInt(3) == 0) {
            call();
        } else if (random.nextInt(60) != 0) {
            write(rest.charAt(0));
            rest = rest.substring(1);
        }
        if (rest.isEmpty() || random.nextInt(200) == 0) {
            taker = random.nextInt(20) == 0 ? random.nextInt(7) : taker;
            take();
            rest = "";
        }
    }

    private void call() {
        switch (random.nextInt(9)) {
            case 0, 1 -> changeAttribute();
            case 2 -> check();
            case 3 -> readForm();
            case 4 -> newMonitor();
            case 5, 6 -> observe();
            case 7 -> readSelected();
            default -> readLog();
        }
    }

    private void changeAttribute() {
        int bean = bean();
        int attribute = attribute();
        int v = value();
        switch (random.nextInt(8)) {
            case 0 -> isTruth("unset", server.unset(bean, attribute), model.unset(bean, attribute));
            case 1 -> isValue("get", server.get(bean, attribute), model.get(bean, attribute));
            default -> isTruth("set", server.set(bean, attribute, v), model.set(bean, attribute, v));
        }
    }

    private void check() {
        int query = query();
        int bean = bean();
        int answer = model.check(query, bean);
        meet("check", answer < 0 ? "NONE" : Integer.toString(answer));
        is("check", server.check(query, bean), answer);
    }

    private void readSelected() {
        int k = numberBelow(12);
        isCode("selected", server.selected(k), model.selected(k));
    }

    private void form(int what, int n, int k) {
        isCode("form", server.form(what, n, k), model.form(what, n, k));
    }

    private void readForm() {
        int what = random.nextInt(5) - 1;
        int n = bean();
        form(what, n, random.nextInt(4) == 0 ? value() : random.nextInt(20) - 2);
    }

    private void readWholeForm() {
        int what = taker == 5 ? 1 : 2;
        int n = query();
        int length = model.form(what, n, -1);
        for (int k = -1; k <= length; k++) {
            form(what, n, k);
        }
    }

    private void newMonitor() {
        int bean = bean();
        int attribute = attribute();
        int first = value();
        int second = random.nextInt(4) == 0 ? value() : random.nextInt(12);
        switch (random.nextInt(8)) {
            case 0 -> isTruth("cancel", server.cancel(second), model.cancel(second));
            case 1, 2, 3 -> isCode("gauge", server.gauge(bean, attribute, first, second),
                model.gauge(bean, attribute, first, second));
            default -> isCode("counter", server.counter(bean, attribute, first, second),
                model.counter(bean, attribute, first, second));
        }
    }

    private void observe() {
        isCode("observe", server.observe(), model.observe());
        int monitor = random.nextInt(8) - 1;
        isValue("mark", server.mark(monitor), model.mark(monitor));
    }

    private void readLog() {
        if (random.nextInt(6) == 0) {
            int kinds = random.nextInt(3) == 0 ? random.nextInt() : 63;
            isCode("listen", server.listen(kinds), model.listen(kinds));
        }
        int k = numberBelow(18);
        meet("kind", Integer.toString(model.notice(k, 1)));
        for (int what = -1; what < 5; what++) {
            int answer = model.notice(k, what);
            meet("notice", answer == BeanServer.NONE ? "NONE" : "0 ..");
            is("notice", server.notice(k, what), answer);
        }
    }

    /** Mostly one of the first few, so that calls meet what is there. */
    private int numberBelow(int bound) {
        return random.nextInt(20) == 0 ? edge() : random.nextInt(random.nextInt(bound) + 1);
    }

    private int edge() {
        return EDGES[random.nextInt(EDGES.length)];
    }

    private int bean() {
        return numberBelow(brief ? 12 : 4);
    }

    private int query() {
        return numberBelow(3);
    }

    private int attribute() {
        return numberBelow(5);
    }

    private int value() {
        return random.nextInt(6) == 0 ? edge() : random.nextInt(16) - 3;
    }
}
