import java.math.BigInteger;
import java.util.ArrayList;
import java.util.List;
import java.util.Map;
import java.util.TreeMap;
import java.util.regex.Pattern;

/** The document's words in the Java library's means, to compare random runs with. */
final class Model {
    private static final Pattern NAME = Pattern.compile("[a-z0-9]{1,6}:[a-z]=[a-z0-9]{1,4}(,[a-z]=[a-z0-9]{1,4})*");
    private static final Pattern PATTERN = Pattern.compile(
        "[a-z0-9?*]{0,6}:(\\*|[a-z]=[a-z0-9?*]{1,4}(,[a-z]=[a-z0-9?*]{1,4})*(,\\*)?)");

    private record Bean(String name, Integer[] attributes) { }

    private static final class Monitor {
        String name;
        int attribute;
        boolean isCounter;
        int first;
        int second;
        BigInteger mark;
        boolean ready = true;
        Integer before = null;
        int side = 0;
        boolean erred = false;
    }

    private String buffer = "";
    private final TreeMap<Integer, Bean> beans = new TreeMap<>();
    private final List<QueryTree> queries = new ArrayList<>();
    private final TreeMap<Integer, Monitor> monitors = new TreeMap<>();
    private List<Integer> selected = new ArrayList<>();
    private String latestPattern = null;
    private final List<int[]> log = new ArrayList<>();
    private int given = 0;
    private int kinds = -1;

    boolean write(char c) {
        if (c < ' ' || c > '~' || buffer.length() == 60) {
            return false;
        }
        buffer += c;
        return true;
    }

    int register() {
        String name = takeName();
        if (name == null) {
            return -1;
        }
        if (numberOf(name) != null) {
            return -3;
        }
        if (beans.size() == 12) {
            return -4;
        }
        int number = lowestFree(beans);
        beans.put(number, new Bean(name, new Integer[5]));
        give(0, number, 0);
        return number;
    }

    int unregister() {
        String name = takeName();
        if (name == null) {
            return -1;
        }
        Integer number = numberOf(name);
        if (number == null) {
            return -2;
        }
        beans.remove(number);
        give(1, number, 0);
        return number;
    }

    int find() {
        String name = takeName();
        if (name == null) {
            return -1;
        }
        Integer number = numberOf(name);
        return number == null ? -2 : number;
    }

    boolean set(int bean, int attribute, int v) {
        if (!beans.containsKey(bean) || attribute < 0 || attribute > 4) {
            return false;
        }
        beans.get(bean).attributes[attribute] = v;
        return true;
    }

    boolean unset(int bean, int attribute) {
        if (!beans.containsKey(bean) || attribute < 0 || attribute > 4 || beans.get(bean).attributes[attribute] == null) {
            return false;
        }
        beans.get(bean).attributes[attribute] = null;
        return true;
    }

    int get(int bean, int attribute) {
        if (!beans.containsKey(bean) || attribute < 0 || attribute > 4 || beans.get(bean).attributes[attribute] == null) {
            return 0;
        }
        return beans.get(bean).attributes[attribute];
    }

    int define() {
        String text = take();
        if (text.replaceAll("[^(!]", "").length() > 8) {
            return -4;
        }
        QueryTree query = QueryTree.of(text);
        if (query == null) {
            return -1;
        }
        if (queries.size() == 6) {
            return -4;
        }
        queries.add(query);
        return queries.size() - 1;
    }

    int check(int query, int bean) {
        if (query < 0 || query >= queries.size() || !beans.containsKey(bean)) {
            return -2;
        }
        try {
            return queries.get(query).holds(beans.get(bean).attributes) ? 1 : 0;
        } catch (QueryTree.Failure failure) {
            return 2;
        }
    }

    int select(int query) {
        String text = take();
        if (query != -1 && (query < 0 || query >= queries.size())) {
            return -2;
        }
        if (!PATTERN.matcher(text).matches() || properties(text) == null) {
            return -1;
        }
        latestPattern = ordered(text);
        selected = new ArrayList<>();
        for (int number : beans.keySet()) {
            if (fits(text, beans.get(number).name) && (query == -1 || check(query, number) == 1)) {
                selected.add(number);
            }
        }
        return selected.size();
    }

    int selected(int k) {
        return k >= 0 && k < selected.size() ? selected.get(k) : -2;
    }

    int form(int what, int n, int k) {
        String form = null;
        if (what == 0 && beans.containsKey(n)) {
            form = beans.get(n).name;
        } else if (what == 1 && n >= 0 && n < queries.size()) {
            form = queries.get(n).form();
        } else if (what == 2) {
            form = latestPattern;
        }
        if (form == null) {
            return -2;
        }
        if (k == -1) {
            return form.length();
        }
        return k >= 0 && k < form.length() ? form.charAt(k) : -2;
    }

    int counter(int bean, int attribute, int start, int step) {
        return monitor(bean, attribute, start, step, true);
    }

    int gauge(int bean, int attribute, int low, int high) {
        return monitor(bean, attribute, low, high, false);
    }

    private int monitor(int bean, int attribute, int first, int second, boolean isCounter) {
        if (attribute < 0 || attribute > 4 || (isCounter ? second < 0 : first >= second)) {
            return -1;
        }
        if (!beans.containsKey(bean)) {
            return -2;
        }
        if (monitors.size() == 6) {
            return -4;
        }
        Monitor monitor = new Monitor();
        monitor.name = beans.get(bean).name;
        monitor.attribute = attribute;
        monitor.isCounter = isCounter;
        monitor.first = first;
        monitor.second = second;
        monitor.mark = BigInteger.valueOf(first);
        int number = lowestFree(monitors);
        monitors.put(number, monitor);
        return number;
    }

    boolean cancel(int monitor) {
        return monitors.remove(monitor) != null;
    }

    int observe() {
        int before = given;
        for (int number : monitors.keySet()) {
            Monitor monitor = monitors.get(number);
            Integer bean = numberOf(monitor.name);
            Integer v = bean == null ? null : beans.get(bean).attributes[monitor.attribute];
            if (v == null) {
                if (!monitor.erred) {
                    give(5, number, 0);
                }
            } else if (monitor.isCounter) {
                count(monitor, number, v);
            } else {
                gauge(monitor, number, v);
            }
            monitor.erred = v == null;
        }
        return given - before;
    }

    private void count(Monitor counter, int number, int v) {
        BigInteger start = BigInteger.valueOf(counter.first);
        BigInteger seen = BigInteger.valueOf(v);
        if (counter.before != null && v < counter.before) {
            counter.mark = start;
            counter.ready = true;
        }
        counter.before = v;
        if (!counter.ready && seen.compareTo(counter.mark) < 0) {
            counter.ready = true;
        }
        if (counter.ready && seen.compareTo(counter.mark) >= 0) {
            give(2, number, v);
            if (counter.second == 0) {
                counter.ready = false;
            } else {
                BigInteger step = BigInteger.valueOf(counter.second);
                BigInteger into = seen.subtract(start).mod(step);
                counter.mark = seen.subtract(into).add(step);
            }
        }
    }

    private void gauge(Monitor gauge, int number, int v) {
        if (v >= gauge.second && gauge.side != 1) {
            give(3, number, v);
            gauge.side = 1;
        } else if (v <= gauge.first && gauge.side != -1) {
            give(4, number, v);
            gauge.side = -1;
        }
    }

    long mark(int monitor) {
        Monitor asked = monitors.get(monitor);
        if (asked == null) {
            return 0;
        }
        return asked.isCounter ? asked.mark.longValueExact() : asked.side;
    }

    int listen(int kinds) {
        this.kinds = kinds;
        return given;
    }

    int notice(int k, int what) {
        if (k < 0 || k >= Math.min(16, log.size()) || what < 0 || what > 3) {
            return -2;
        }
        return log.get(log.size() - 1 - k)[what];
    }

    private void give(int kind, int source, int value) {
        given++;
        if ((kinds & 1 << kind) != 0) {
            log.add(new int[] {given, kind, source, value});
        }
    }

    private String take() {
        String text = buffer;
        buffer = "";
        return text;
    }

    private String takeName() {
        String text = take();
        return NAME.matcher(text).matches() && properties(text) != null ? ordered(text) : null;
    }

    private Integer numberOf(String name) {
        for (Map.Entry<Integer, Bean> bean : beans.entrySet()) {
            if (bean.getValue().name.equals(name)) {
                return bean.getKey();
            }
        }
        return null;
    }

    private static int lowestFree(Map<Integer, ?> there) {
        int number = 0;
        while (there.containsKey(number)) {
            number++;
        }
        return number;
    }

    private static boolean isOpen(String text) {
        return text.endsWith(":*") || text.endsWith(",*");
    }

    /** The properties by key, or null if a key comes twice. */
    private static TreeMap<String, String> properties(String text) {
        TreeMap<String, String> properties = new TreeMap<>();
        for (String part : text.substring(text.indexOf(':') + 1).split(",")) {
            if (!part.equals("*") && properties.put(part.substring(0, 1), part.substring(2)) != null) {
                return null;
            }
        }
        return properties;
    }

    private static String ordered(String text) {
        List<String> parts = new ArrayList<>();
        properties(text).forEach((key, value) -> parts.add(key + "=" + value));
        if (isOpen(text)) {
            parts.add("*");
        }
        return text.substring(0, text.indexOf(':') + 1) + String.join(",", parts);
    }

    private static boolean fits(String pattern, String name) {
        String domain = name.substring(0, name.indexOf(':'));
        if (!domain.matches(regular(pattern.substring(0, pattern.indexOf(':'))))) {
            return false;
        }
        TreeMap<String, String> asked = properties(pattern);
        TreeMap<String, String> there = properties(name);
        for (String key : asked.keySet()) {
            if (!there.containsKey(key) || !there.get(key).matches(regular(asked.get(key)))) {
                return false;
            }
        }
        return isOpen(pattern) || asked.keySet().containsAll(there.keySet());
    }

    private static String regular(String pattern) {
        return pattern.replace("?", ".").replace("*", ".*");
    }
}
