/**
 * A bean server whose calls that take the buffer are told their text, and whose forms are read as texts.
 * It counts its calls: behind the 512th the document promises nothing that a test could ask for.
 */
final class Desk {
    private static final int CALLS = 512;

    private final BeanServer server = new BeanServer();
    private int calls = 0;

    private BeanServer called() {
        calls++;
        if (calls > CALLS) {
            throw new IllegalStateException("more than " + CALLS + " calls");
        }
        return server;
    }

    boolean write(int code) {
        return called().write((char) code);
    }

    Desk text(String text) {
        for (char c : text.toCharArray()) {
            if (!write(c)) {
                throw new IllegalStateException("write refused in " + text);
            }
        }
        return this;
    }

    int register() {
        return called().register();
    }

    int register(String name) {
        return text(name).register();
    }

    int unregister() {
        return called().unregister();
    }

    int unregister(String name) {
        return text(name).unregister();
    }

    int find() {
        return called().find();
    }

    int find(String name) {
        return text(name).find();
    }

    boolean set(int bean, int attribute, int v) {
        return called().set(bean, attribute, v);
    }

    boolean unset(int bean, int attribute) {
        return called().unset(bean, attribute);
    }

    int get(int bean, int attribute) {
        return called().get(bean, attribute);
    }

    int define() {
        return called().define();
    }

    int define(String query) {
        return text(query).define();
    }

    int check(int query, int bean) {
        return called().check(query, bean);
    }

    int select(int query) {
        return called().select(query);
    }

    int select(String pattern, int query) {
        return text(pattern).select(query);
    }

    int selected(int k) {
        return called().selected(k);
    }

    /** The selected beans as a text: their numbers, each with a space behind it. */
    String selection() {
        StringBuilder numbers = new StringBuilder();
        int bean = selected(0);
        for (int k = 1; bean >= 0; k++) {
            numbers.append(bean).append(' ');
            bean = selected(k);
        }
        return numbers.toString();
    }

    int form(int what, int n, int k) {
        return called().form(what, n, k);
    }

    /** The form as a text, or "none". */
    String form(int what, int n) {
        int length = form(what, n, -1);
        if (length < 0) {
            return "none";
        }
        StringBuilder form = new StringBuilder();
        for (int k = 0; k < length; k++) {
            form.append((char) form(what, n, k));
        }
        return form.toString();
    }

    int counter(int bean, int attribute, int start, int step) {
        return called().counter(bean, attribute, start, step);
    }

    int gauge(int bean, int attribute, int low, int high) {
        return called().gauge(bean, attribute, low, high);
    }

    boolean cancel(int monitor) {
        return called().cancel(monitor);
    }

    int observe() {
        return called().observe();
    }

    long mark(int monitor) {
        return called().mark(monitor);
    }

    int listen(int kinds) {
        return called().listen(kinds);
    }

    int notice(int k, int what) {
        return called().notice(k, what);
    }

    /** The notice at a place of the log as a text: number, kind, source, value; or "none". */
    String notice(int k) {
        int number = notice(k, 0);
        return number < 0 ? "none" : number + " " + notice(k, 1) + " " + notice(k, 2) + " " + notice(k, 3);
    }
}
