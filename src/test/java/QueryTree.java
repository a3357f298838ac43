import java.util.ArrayList;
import java.util.List;

/**
 * Queries after the words of the document, for the model: a tree that keeps each pair of parentheses.
 * The program has no such tree, so the two go wrong in different ways.
 */
final class QueryTree {
    /** A part that is looked at fails. */
    static final class Failure extends Exception {
        private static final long serialVersionUID = 1L;
    }

    interface One {
        boolean holds(Integer[] attributes) throws Failure;

        String form(boolean amongOthers, boolean behindNot);
    }

    private final List<List<One>> alls = new ArrayList<>();

    /** The query that a text is, or null. */
    static QueryTree of(String text) {
        try {
            Reader reader = new Reader(text);
            QueryTree query = reader.query();
            return reader.rest.isEmpty() ? query : null;
        } catch (IllegalArgumentException noQuery) {
            return null;
        }
    }

    boolean holds(Integer[] attributes) throws Failure {
        for (List<One> all : alls) {
            if (allHold(all, attributes)) {
                return true;
            }
        }
        return false;
    }

    private static boolean allHold(List<One> all, Integer[] attributes) throws Failure {
        for (One one : all) {
            if (!one.holds(attributes)) {
                return false;
            }
        }
        return true;
    }

    String form() {
        List<String> parts = new ArrayList<>();
        for (List<One> all : alls) {
            List<String> ones = new ArrayList<>();
            for (One one : all) {
                ones.add(one.form(all.size() > 1, false));
            }
            parts.add(String.join("&", ones));
        }
        return String.join("|", parts);
    }

    private QueryTree withoutOuterParentheses() {
        boolean single = alls.size() == 1 && alls.get(0).size() == 1;
        if (single && alls.get(0).get(0) instanceof Parentheses outer) {
            return outer.inside.withoutOuterParentheses();
        }
        return this;
    }

    private record Parentheses(QueryTree inside) implements One {
        public boolean holds(Integer[] attributes) throws Failure {
            return inside.holds(attributes);
        }

        public String form(boolean amongOthers, boolean behindNot) {
            QueryTree bare = inside.withoutOuterParentheses();
            boolean manyAlls = bare.alls.size() > 1;
            boolean manyOnes = !manyAlls && bare.alls.get(0).size() > 1;
            boolean needed = manyAlls && (amongOthers || behindNot) || manyOnes && behindNot;
            return needed ? "(" + bare.form() + ")" : bare.form();
        }
    }

    private record Not(One one) implements One {
        public boolean holds(Integer[] attributes) throws Failure {
            return !one.holds(attributes);
        }

        public String form(boolean amongOthers, boolean behindNot) {
            return "!" + one.form(false, true);
        }
    }

    private record Comparison(Value left, char relation, Value right) implements One {
        public boolean holds(Integer[] attributes) throws Failure {
            int order = Integer.compare(left.of(attributes), right.of(attributes));
            return switch (relation) {
                case '=' -> order == 0;
                case '<' -> order < 0;
                case '>' -> order > 0;
                default -> order != 0;
            };
        }

        public String form(boolean amongOthers, boolean behindNot) {
            return left.form() + relation + right.form();
        }
    }

    private interface Value {
        int of(Integer[] attributes) throws Failure;

        String form();
    }

    private record Number(int number) implements Value {
        public int of(Integer[] attributes) {
            return number;
        }

        public String form() {
            return Integer.toString(number);
        }
    }

    private record Attribute(char letter) implements Value {
        public int of(Integer[] attributes) throws Failure {
            Integer v = attributes[letter - 'a'];
            if (v == null) {
                throw new Failure();
            }
            return v;
        }

        public String form() {
            return Character.toString(letter);
        }
    }

    private record Operation(Value left, char operator, Value right) implements Value {
        public int of(Integer[] attributes) throws Failure {
            long x = left.of(attributes);
            long y = right.of(attributes);
            if (operator == '/' && y == 0) {
                throw new Failure();
            }
            return (int) switch (operator) {
                case '+' -> x + y;
                case '-' -> x - y;
                case '*' -> x * y;
                default -> x / y;
            };
        }

        public String form() {
            return left.form() + operator + right.form();
        }
    }

    private static final class Reader {
        private String rest;

        Reader(String text) {
            rest = text;
        }

        QueryTree query() {
            QueryTree query = new QueryTree();
            do {
                List<One> all = new ArrayList<>();
                do {
                    all.add(one());
                } while (takes("&"));
                query.alls.add(all);
            } while (takes("|"));
            return query;
        }

        private One one() {
            if (takes("!")) {
                return new Not(one());
            }
            if (takes("(")) {
                QueryTree inside = query();
                one(")");
                return new Parentheses(inside);
            }
            Value left = value();
            char relation = one("=<>#");
            return new Comparison(left, relation, value());
        }

        private Value value() {
            Value value = product();
            while (begins("+-")) {
                char operator = one("+-");
                value = new Operation(value, operator, product());
            }
            return value;
        }

        private Value product() {
            Value product = unit();
            while (begins("*/")) {
                char operator = one("*/");
                product = new Operation(product, operator, unit());
            }
            return product;
        }

        private Value unit() {
            if (begins("abcde")) {
                return new Attribute(one("abcde"));
            }
            StringBuilder digits = new StringBuilder().append(one("0123456789"));
            while (begins("0123456789")) {
                digits.append(one("0123456789"));
            }
            if (digits.length() > 4) {
                throw new IllegalArgumentException();
            }
            return new Number(Integer.parseInt(digits.toString()));
        }

        private boolean begins(String anyOf) {
            return !rest.isEmpty() && anyOf.indexOf(rest.charAt(0)) >= 0;
        }

        private boolean takes(String anyOf) {
            boolean begins = begins(anyOf);
            rest = begins ? rest.substring(1) : rest;
            return begins;
        }

        private char one(String anyOf) {
            char first = rest.isEmpty() ? ' ' : rest.charAt(0);
            if (!takes(anyOf)) {
                throw new IllegalArgumentException();
            }
            return first;
        }
    }
}
