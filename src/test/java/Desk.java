/** A bean server whose calls that take the buffer are told their text, and whose forms are read as texts. */
final class Desk {
    final BeanServer server = new BeanServer();

    Desk text(String text) {
        for (char c : text.toCharArray()) {
            if (!server.write(c)) {
                throw new IllegalStateException("write refused in " + text);
            }
        }
        return this;
    }

    int register(String name) {
        return text(name).server.register();
    }

    int unregister(String name) {
        return text(name).server.unregister();
    }

    int find(String name) {
        return text(name).server.find();
    }

    int define(String query) {
        return text(query).server.define();
    }

    int select(String pattern, int query) {
        return text(pattern).server.select(query);
    }

    /** The form as a text, or "none". */
    String form(int what, int n) {
        int length = server.form(what, n, -1);
        if (length < 0) {
            return "none";
        }
        StringBuilder form = new StringBuilder();
        for (int k = 0; k < length; k++) {
            form.append((char) server.form(what, n, k));
        }
        return form.toString();
    }

    /** The selected beans as a text: their numbers, each with a space behind it. */
    String selection() {
        StringBuilder numbers = new StringBuilder();
        for (int k = 0; server.selected(k) >= 0; k++) {
            numbers.append(server.selected(k)).append(' ');
        }
        return numbers.toString();
    }

    /** The notice at a place of the log as a text: number, kind, source, value. */
    String notice(int k) {
        StringBuilder notice = new StringBuilder();
        for (int what = 0; what < 4; what++) {
            notice.append(server.notice(k, what)).append(what < 3 ? " " : "");
        }
        return notice.toString();
    }
}
