/**
 * A server for managed beans: named beans with attributes, found by name patterns and kept queries,
 * observed by monitors, with a log of notices.
 */
public final class BeanServer {
    public static final int BAD = -1;
    public static final int NONE = -2;
    public static final int EXISTS = -3;
    public static final int FULL = -4;

    private static final int BUFFER_LENGTH = 60;
    private static final int BEANS = 12;
    private static final int QUERIES = 6;
    private static final int MONITORS = 6;
    private static final int ATTRIBUTES = 5;
    private static final int KEYS = 26;
    private static final int DOMAIN_LENGTH = 6;
    private static final int VALUE_LENGTH = 4;
    private static final int NUMBER_LENGTH = 4;
    private static final int NESTINGS = 8;
    private static final int LOG_LENGTH = 16;

    private static final int FALSE = 0;
    private static final int TRUE = 1;
    private static final int FAILS = 2;

    private static final int NO_NOTICE = -1;
    private static final int REGISTERED = 0;
    private static final int GONE = 1;
    private static final int REACHED = 2;
    private static final int HIGH = 3;
    private static final int LOW = 4;
    private static final int ERROR = 5;
    private static final int ALL_KINDS = 63;

    private static final int EVERY_BEAN = -1;
    private static final int WHOLE_LENGTH = -1;

    /** Stands for the character where a text has none; no text holds it. */
    private static final char END = 0;

    private final StringBuilder buffer = new StringBuilder();
    private final Bean[] beans = new Bean[BEANS];
    private final Query[] queries = new Query[QUERIES];
    private int queryCount = 0;
    private final Monitor[] monitors = new Monitor[MONITORS];
    private final Log log = new Log();
    private final int[] selection = new int[BEANS];
    private int selectionSize = 0;
    /** Empty until a select was not refused; no pattern's form is empty. */
    private String latestPattern = "";

    public BeanServer() {
    }

    public boolean write(char c) {
        if (c < 32 || c > 126 || buffer.length() >= BUFFER_LENGTH) {
            return false;
        }
        buffer.append(c);
        return true;
    }

    public int register() {
        Pattern name = takenName();
        if (name == null) {
            return BAD;
        }
        if (beanNamed(name.form) != NONE) {
            return EXISTS;
        }
        int number = freeBean();
        if (number != FULL) {
            beans[number] = new Bean(name);
            log.give(REGISTERED, number, 0);
        }
        return number;
    }

    public int unregister() {
        Pattern name = takenName();
        if (name == null) {
            return BAD;
        }
        int number = beanNamed(name.form);
        if (number != NONE) {
            beans[number] = null;
            log.give(GONE, number, 0);
        }
        return number;
    }

    public int find() {
        Pattern name = takenName();
        return name == null ? BAD : beanNamed(name.form);
    }

    public boolean set(int bean, int attribute, int v) {
        Bean changed = beanAt(bean);
        if (changed == null || !isAttribute(attribute)) {
            return false;
        }
        changed.values[attribute] = v;
        changed.present[attribute] = true;
        return true;
    }

    public boolean unset(int bean, int attribute) {
        Bean changed = beanAt(bean);
        if (changed == null || !isAttribute(attribute) || !changed.present[attribute]) {
            return false;
        }
        changed.present[attribute] = false;
        return true;
    }

    public int get(int bean, int attribute) {
        Bean asked = beanAt(bean);
        if (asked == null || !isAttribute(attribute) || !asked.present[attribute]) {
            return 0;
        }
        return asked.values[attribute];
    }

    public int define() {
        String text = taken();
        if (nestings(text) > NESTINGS) {
            return FULL;
        }
        QueryReader reader = new QueryReader(text, null);
        reader.any();
        if (reader.wrong || reader.at < text.length()) {
            return BAD;
        }
        if (queryCount >= QUERIES) {
            return FULL;
        }
        queries[queryCount] = new Query(new QueryForm(text).written());
        queryCount++;
        return queryCount - 1;
    }

    public int check(int query, int bean) {
        Query asked = queryAt(query);
        Bean looked = beanAt(bean);
        if (asked == null || looked == null) {
            return NONE;
        }
        return new QueryReader(asked.form, looked).any();
    }

    public int select(int query) {
        String text = taken();
        Query condition = queryAt(query);
        if (condition == null && query != EVERY_BEAN) {
            return NONE;
        }
        Pattern pattern = patternIn(text);
        if (pattern == null) {
            return BAD;
        }
        latestPattern = pattern.form;
        selectionSize = 0;
        for (int i = 0; i < BEANS; i++) {
            Bean bean = beans[i];
            if (bean != null && pattern.fits(bean.name)
                    && (condition == null || new QueryReader(condition.form, bean).any() == TRUE)) {
                selection[selectionSize] = i;
                selectionSize++;
            }
        }
        return selectionSize;
    }

    public int selected(int k) {
        return k < 0 || k >= selectionSize ? NONE : selection[k];
    }

    public int form(int what, int n, int k) {
        String text = shownForm(what, n);
        if (text.isEmpty()) {
            return NONE;
        }
        if (k == WHOLE_LENGTH) {
            return text.length();
        }
        if (k < 0 || k >= text.length()) {
            return NONE;
        }
        return text.charAt(k);
    }

    public int counter(int bean, int attribute, int start, int step) {
        if (!isAttribute(attribute) || step < 0) {
            return BAD;
        }
        int number = numberForMonitorOf(bean);
        if (number >= 0) {
            monitors[number] = new Counter(beans[bean].name.form, attribute, start, step);
        }
        return number;
    }

    public int gauge(int bean, int attribute, int low, int high) {
        if (!isAttribute(attribute) || low >= high) {
            return BAD;
        }
        int number = numberForMonitorOf(bean);
        if (number >= 0) {
            monitors[number] = new Gauge(beans[bean].name.form, attribute, low, high);
        }
        return number;
    }

    public boolean cancel(int monitor) {
        if (monitorAt(monitor) == null) {
            return false;
        }
        monitors[monitor] = null;
        return true;
    }

    public int observe() {
        int before = log.given;
        for (int i = 0; i < MONITORS; i++) {
            if (monitors[i] != null) {
                letLook(monitors[i], i);
            }
        }
        return log.given - before;
    }

    public long mark(int monitor) {
        Monitor asked = monitorAt(monitor);
        return asked == null ? 0 : asked.level();
    }

    public int listen(int kinds) {
        log.listened = kinds;
        return log.given;
    }

    public int notice(int k, int what) {
        return log.told(k, what);
    }

    private String taken() {
        String text = buffer.toString();
        buffer.setLength(0);
        return text;
    }

    /** The name that the buffer holds; null if it holds none. */
    private Pattern takenName() {
        Pattern name = patternIn(taken());
        return name != null && name.isName() ? name : null;
    }

    private static Pattern patternIn(String text) {
        Pattern pattern = new Pattern(text);
        return pattern.parse() ? pattern : null;
    }

    private static boolean isAttribute(int attribute) {
        return attribute >= 0 && attribute < ATTRIBUTES;
    }

    /** How deep a query could nest; the bound on it keeps the reader's recursion low. */
    private static int nestings(String text) {
        int count = 0;
        for (int i = 0; i < text.length(); i++) {
            if (text.charAt(i) == '(' || text.charAt(i) == '!') {
                count++;
            }
        }
        return count;
    }

    private Bean beanAt(int number) {
        return number < 0 || number >= BEANS ? null : beans[number];
    }

    private Query queryAt(int number) {
        return number < 0 || number >= queryCount ? null : queries[number];
    }

    private Monitor monitorAt(int number) {
        return number < 0 || number >= MONITORS ? null : monitors[number];
    }

    private int beanNamed(String form) {
        for (int i = 0; i < BEANS; i++) {
            if (beans[i] != null && beans[i].name.form.equals(form)) {
                return i;
            }
        }
        return NONE;
    }

    private int freeBean() {
        for (int i = 0; i < BEANS; i++) {
            if (beans[i] == null) {
                return i;
            }
        }
        return FULL;
    }

    /** The number of a new monitor for a bean, or why there can be none. */
    private int numberForMonitorOf(int bean) {
        if (beanAt(bean) == null) {
            return NONE;
        }
        for (int i = 0; i < MONITORS; i++) {
            if (monitors[i] == null) {
                return i;
            }
        }
        return FULL;
    }

    /** The form that is asked for; empty if there is none. */
    private String shownForm(int what, int n) {
        if (what == 0 && beanAt(n) != null) {
            return beanAt(n).name.form;
        }
        if (what == 1 && queryAt(n) != null) {
            return queryAt(n).form;
        }
        return what == 2 ? latestPattern : "";
    }

    private void letLook(Monitor monitor, int number) {
        Bean bean = beanAt(beanNamed(monitor.name));
        if (bean == null || !bean.present[monitor.attribute]) {
            if (!monitor.erred) {
                log.give(ERROR, number, 0);
            }
            monitor.erred = true;
            return;
        }
        monitor.erred = false;
        int v = bean.values[monitor.attribute];
        int kind = monitor.kindFor(v);
        if (kind != NO_NOTICE) {
            log.give(kind, number, v);
        }
    }

    private static final class Bean {
        final Pattern name;
        final int[] values = new int[ATTRIBUTES];
        final boolean[] present = new boolean[ATTRIBUTES];

        Bean(Pattern name) {
            this.name = name;
        }
    }

    /** A name pattern. A name is one too: one with a domain and without ? and *. */
    private static final class Pattern {
        final String text;
        /** Where the value of a key starts in the text; 0 for a key that isn't there. */
        final int[] starts = new int[KEYS];
        final int[] ends = new int[KEYS];
        int domainEnd = 0;
        boolean open = false;
        String form = "";

        Pattern(String text) {
            this.text = text;
        }

        /** Reads the text; false if it is no pattern. */
        boolean parse() {
            domainEnd = rowEnd(0);
            if (domainEnd > DOMAIN_LENGTH || domainEnd >= text.length() || text.charAt(domainEnd) != ':') {
                return false;
            }
            if (!parseList(domainEnd + 1)) {
                return false;
            }
            form = ordered();
            return true;
        }

        boolean isName() {
            return domainEnd > 0 && text.indexOf('*') < 0 && text.indexOf('?') < 0;
        }

        boolean fits(Pattern name) {
            if (!standsFor(0, domainEnd, name.text, 0, name.domainEnd)) {
                return false;
            }
            for (int key = 0; key < KEYS; key++) {
                boolean named = name.starts[key] != 0;
                if (starts[key] == 0) {
                    if (named && !open) {
                        return false;
                    }
                } else if (!named || !standsFor(starts[key], ends[key], name.text, name.starts[key], name.ends[key])) {
                    return false;
                }
            }
            return true;
        }

        /** Where the row of characters that may stand in a domain or value pattern ends. */
        private int rowEnd(int from) {
            int end = from;
            while (end < text.length() && isRowCharacter(text.charAt(end))) {
                end++;
            }
            return end;
        }

        private static boolean isRowCharacter(char c) {
            return c >= 'a' && c <= 'z' || c >= '0' && c <= '9' || c == '?' || c == '*';
        }

        private boolean parseList(int from) {
            int at = from;
            for (int parts = 0; parts <= KEYS && at < text.length(); parts++) {
                if (text.charAt(at) == '*') {
                    open = true;
                    return at + 1 == text.length();
                }
                int end = parseProperty(at);
                if (end == text.length()) {
                    return true;
                }
                if (end < 0 || text.charAt(end) != ',') {
                    return false;
                }
                at = end + 1;
            }
            return false;
        }

        /** Keeps the property pattern that starts here, and tells where it ends; below 0 if there is none. */
        private int parseProperty(int at) {
            int start = at + 2;
            if (start >= text.length() || text.charAt(at + 1) != '=') {
                return BAD;
            }
            int key = text.charAt(at) - 'a';
            if (key < 0 || key >= KEYS || starts[key] != 0) {
                return BAD;
            }
            int end = rowEnd(start);
            if (end == start || end > start + VALUE_LENGTH) {
                return BAD;
            }
            starts[key] = start;
            ends[key] = end;
            return end;
        }

        private String ordered() {
            StringBuilder out = new StringBuilder();
            copy(0, domainEnd + 1, out);
            int listStart = out.length();
            for (int key = 0; key < KEYS; key++) {
                if (starts[key] != 0) {
                    separate(listStart, out);
                    copy(starts[key] - 2, ends[key], out);
                }
            }
            if (open) {
                separate(listStart, out);
                out.append('*');
            }
            return out.toString();
        }

        private void copy(int from, int to, StringBuilder out) {
            for (int i = from; i < to; i++) {
                out.append(text.charAt(i));
            }
        }

        private static void separate(int listStart, StringBuilder out) {
            if (out.length() > listStart) {
                out.append(',');
            }
        }

        /**
         * Whether the pattern characters from .. to can stand for the row's characters start .. end.
         * Bit i of reached says that those so far can stand for the row's first i characters, so that
         * a * needs no second try.
         */
        private boolean standsFor(int from, int to, String row, int start, int end) {
            int reached = 1;
            for (int i = from; i < to; i++) {
                char c = text.charAt(i);
                if (c == '*') {
                    // -x has the lowest bit of x and all bits above it.
                    reached = reached | -reached;
                } else {
                    reached = reachedBehind(c, reached, row, start, end);
                }
            }
            return (reached >> (end - start) & 1) == 1;
        }

        private static int reachedBehind(char c, int reached, String row, int start, int end) {
            int next = 0;
            for (int i = start; i < end; i++) {
                int length = i - start;
                if ((reached >> length & 1) == 1 && (c == '?' || c == row.charAt(i))) {
                    next = next | 1 << (length + 1);
                }
            }
            return next;
        }
    }

    private static final class Query {
        final String form;

        Query(String form) {
            this.form = form;
        }
    }

    /**
     * Reads a query and works it out for a bean in the same walk. Nothing that is worked out changes
     * anything, so what isn't to be looked at is walked over and its answer left out.
     * The recursion is as deep as ( and ! nest, which define bounds.
     */
    private static final class QueryReader {
        private final String text;
        /** Null where only the grammar counts: then every attribute fails. */
        private final Bean bean;
        int at = 0;
        boolean wrong = false;
        private char here;
        /** Whether a part of the comparison that is being read fails. */
        private boolean failed = false;

        QueryReader(String text, Bean bean) {
            this.text = text;
            this.bean = bean;
            this.here = text.isEmpty() ? END : text.charAt(0);
        }

        int any() {
            int answer = all();
            for (int i = 0; i < text.length() && here == '|'; i++) {
                step();
                int next = all();
                answer = answer == FALSE ? next : answer;
            }
            return answer;
        }

        private int all() {
            int answer = one();
            for (int i = 0; i < text.length() && here == '&'; i++) {
                step();
                int next = one();
                answer = answer == TRUE ? next : answer;
            }
            return answer;
        }

        private int one() {
            if (here == '!') {
                step();
                int answer = one();
                return answer == FAILS ? FAILS : TRUE - answer;
            }
            if (here == '(') {
                step();
                int answer = any();
                wrong = wrong || here != ')';
                step();
                return answer;
            }
            failed = false;
            int left = sum();
            char relation = here;
            wrong = wrong || !isRelation(relation);
            step();
            int right = sum();
            return failed ? FAILS : compared(left, relation, right);
        }

        private static boolean isRelation(char c) {
            return c == '=' || c == '<' || c == '>' || c == '#';
        }

        private static int compared(int left, char relation, int right) {
            boolean holds = relation == '=' && left == right
                    || relation == '<' && left < right
                    || relation == '>' && left > right
                    || relation == '#' && left != right;
            return holds ? TRUE : FALSE;
        }

        private int sum() {
            int sum = product();
            for (int i = 0; i < text.length() && (here == '+' || here == '-'); i++) {
                boolean adds = here == '+';
                step();
                int next = product();
                sum = adds ? sum + next : sum - next;
            }
            return sum;
        }

        private int product() {
            int product = unit();
            for (int i = 0; i < text.length() && (here == '*' || here == '/'); i++) {
                boolean multiplies = here == '*';
                step();
                int next = unit();
                if (multiplies) {
                    product = product * next;
                } else if (next == 0) {
                    failed = true;
                } else {
                    product = product / next;
                }
            }
            return product;
        }

        private int unit() {
            if (here >= 'a' && here < 'a' + ATTRIBUTES) {
                int attribute = here - 'a';
                step();
                if (bean != null && bean.present[attribute]) {
                    return bean.values[attribute];
                }
                failed = true;
                return 0;
            }
            wrong = wrong || here < '0' || here > '9';
            int number = 0;
            for (int i = 0; i < NUMBER_LENGTH && here >= '0' && here <= '9'; i++) {
                number = number * 10 + (here - '0');
                step();
            }
            return number;
        }

        private void step() {
            if (at < text.length()) {
                at++;
            }
            here = at < text.length() ? text.charAt(at) : END;
        }
    }

    /** Writes the form of a text that is a query. */
    private static final class QueryForm {
        private final String text;
        private final StringBuilder out = new StringBuilder();
        /** Where the parentheses that are open now stand in what is written. */
        private final int[] opens = new int[NESTINGS];
        private int depth = 0;

        QueryForm(String text) {
            this.text = text;
        }

        String written() {
            for (int i = 0; i < text.length(); i++) {
                char c = text.charAt(i);
                char behind = i + 1 < text.length() ? text.charAt(i + 1) : END;
                if (c == '(') {
                    openParenthesis();
                } else if (c == ')') {
                    closeParenthesis(behind);
                } else if (c != '0' || !isDigit(behind) || isDigit(lastBefore(out.length()))) {
                    out.append(c);
                }
            }
            return out.toString();
        }

        private void openParenthesis() {
            if (depth < NESTINGS) {
                opens[depth] = out.length();
                depth++;
                out.append('(');
            }
        }

        /** What stands inside has its form already, so that its joint is the one that counts. */
        private void closeParenthesis(char behind) {
            if (depth == 0) {
                return;
            }
            depth--;
            int open = opens[depth];
            if (isNeeded(lastBefore(open), jointFrom(open + 1), behind)) {
                out.append(')');
            } else {
                out.deleteCharAt(open);
            }
        }

        private static boolean isNeeded(char before, char joint, char behind) {
            if (before == '!') {
                return joint != END;
            }
            return joint == '|' && (before == '&' || behind == '&');
        }

        private static boolean isDigit(char c) {
            return c >= '0' && c <= '9';
        }

        private char lastBefore(int end) {
            return end > 0 && end <= out.length() ? out.charAt(end - 1) : END;
        }

        /** What joins the parts of the query that is written from here to the end: | or & or, for a single part, END. */
        private char jointFrom(int start) {
            char joint = END;
            int inner = 0;
            for (int i = start; i < out.length(); i++) {
                char c = out.charAt(i);
                if (c == '(') {
                    inner++;
                } else if (c == ')') {
                    inner--;
                } else if (inner == 0 && (c == '|' || c == '&' && joint == END)) {
                    joint = c;
                }
            }
            return joint;
        }
    }

    /** Observes one attribute of whichever bean has the name. */
    private abstract static class Monitor {
        final String name;
        final int attribute;
        boolean erred = false;

        Monitor(String name, int attribute) {
            this.name = name;
            this.attribute = attribute;
        }

        /** Takes in what was observed: the kind of the notice that this gives, or NO_NOTICE. */
        abstract int kindFor(int v);

        abstract long level();
    }

    private static final class Counter extends Monitor {
        private final int start;
        private final int step;
        private long mark;
        private boolean ready = true;
        private boolean hasLatest = false;
        private int latest = 0;

        Counter(String name, int attribute, int start, int step) {
            super(name, attribute);
            this.start = start;
            this.step = step;
            this.mark = start;
        }

        int kindFor(int v) {
            if (hasLatest && v < latest) {
                mark = start;
                ready = true;
            }
            hasLatest = true;
            latest = v;
            if (v < mark) {
                ready = true;
            }
            if (!ready || v < mark) {
                return NO_NOTICE;
            }
            if (step == 0) {
                ready = false;
            } else {
                mark = firstMarkAbove(v);
            }
            return REACHED;
        }

        /** In long, since neither the way from start to v nor the next mark need be an int. */
        private long firstMarkAbove(int v) {
            long steps = ((long) v - start) / step + 1;
            return start + steps * step;
        }

        long level() {
            return mark;
        }
    }

    private static final class Gauge extends Monitor {
        private final int low;
        private final int high;
        /** 1 high, -1 low, 0 none. */
        private int side = 0;

        Gauge(String name, int attribute, int low, int high) {
            super(name, attribute);
            this.low = low;
            this.high = high;
        }

        int kindFor(int v) {
            if (v >= high && side != 1) {
                side = 1;
                return HIGH;
            }
            if (v <= low && side != -1) {
                side = -1;
                return LOW;
            }
            return NO_NOTICE;
        }

        long level() {
            return side;
        }
    }

    /** The notices: all are counted, the latest of those that were listened to are kept. */
    private static final class Log {
        private final int[] numbers = new int[LOG_LENGTH];
        private final int[] kinds = new int[LOG_LENGTH];
        private final int[] sources = new int[LOG_LENGTH];
        private final int[] values = new int[LOG_LENGTH];
        private int size = 0;
        /** The place that the next notice gets; at the end it starts again at 0. */
        private int next = 0;
        int given = 0;
        int listened = ALL_KINDS;

        void give(int kind, int source, int value) {
            given++;
            if ((listened >> kind & 1) == 0) {
                return;
            }
            numbers[next] = given;
            kinds[next] = kind;
            sources[next] = source;
            values[next] = value;
            next = (next + 1) % LOG_LENGTH;
            size = Math.min(size + 1, LOG_LENGTH);
        }

        int told(int k, int what) {
            if (k < 0 || k >= size) {
                return NONE;
            }
            int place = Math.floorMod(next - 1 - k, LOG_LENGTH);
            switch (what) {
                case 0:
                    return numbers[place];
                case 1:
                    return kinds[place];
                case 2:
                    return sources[place];
                case 3:
                    return values[place];
                default:
                    return NONE;
            }
        }
    }
}
