import java.util.ArrayList;
import java.util.Collections;
import java.util.List;
import java.util.Random;

/** Random names, patterns and queries; now and then one with a fault. */
final class RandomTexts {
    private final Random random;
    /** Whether texts are short: then more of an object's 512 calls are left to fill the server. */
    private final boolean brief;

    RandomTexts(Random random, boolean brief) {
        this.random = random;
        this.brief = brief;
    }

    String name() {
        return spoilt(brief ? briefName() : nameOrPattern(false));
    }

    String pattern() {
        return spoilt(brief ? oneOf("*:*", "?:*", "a:*", "?:k=?", "*:b=*,*", ":*") : nameOrPattern(true));
    }

    String query() {
        return spoilt(brief ? one(random.nextInt(2)) : query(3));
    }

    private String oneOf(String... texts) {
        return texts[random.nextInt(texts.length)];
    }

    private String briefName() {
        return oneOf("a:", "b:") + oneOf("k=", "b=") + oneOf("0", "1", "2", "3", "4");
    }

    private String nameOrPattern(boolean isPattern) {
        String domain = isPattern ? oneOf("*", "?", "a*", "*b", "?*", "a", "ab", "*?b*", "") : oneOf("a", "ab", "b");
        List<String> properties = new ArrayList<>();
        for (String key : List.of("k", "b", "z")) {
            if (random.nextInt(3) == 0) {
                properties.add(key + "=" + (isPattern ? oneOf("*", "?", "x", "*x", "x*", "??", "xy") : oneOf("x", "xy", "yx")));
            }
        }
        Collections.shuffle(properties, random);
        if (isPattern && random.nextBoolean()) {
            properties.add("*");
        }
        if (properties.isEmpty()) {
            properties.add("k=x");
        }
        return domain + ":" + String.join(",", properties);
    }

    private String query(int depth) {
        List<String> alls = new ArrayList<>();
        do {
            List<String> ones = new ArrayList<>();
            do {
                ones.add(one(depth));
            } while (random.nextInt(3) == 0);
            alls.add(String.join("&", ones));
        } while (random.nextInt(3) == 0);
        return String.join("|", alls);
    }

    private String one(int depth) {
        int kind = depth == 0 ? 4 : random.nextInt(5);
        if (kind < 2) {
            return "(" + query(depth - 1) + ")";
        }
        if (kind == 2) {
            return "!" + one(depth - 1);
        }
        return value() + oneOf("=", "<", ">", "#") + value();
    }

    private String value() {
        StringBuilder value = new StringBuilder(unit());
        while (random.nextInt(4) == 0) {
            value.append(oneOf("+", "-", "*", "/")).append(unit());
        }
        return value.toString();
    }

    private String unit() {
        return oneOf("a", "b", "c", "d", "e", "a", "b", "0", "1", "2", "00", "007", "10", "9999", "0100");
    }

    /** Now and then the text with a character too many, too few or changed. */
    private String spoilt(String text) {
        if (random.nextInt(6) != 0) {
            return text;
        }
        int at = random.nextInt(text.length());
        String other = oneOf("*", "?", ",", ":", "=", "a", "9", "(", ")", "!", "&", "|", "k", " ", "\n", "~", "\u007f", "");
        return text.substring(0, at) + other + text.substring(at + random.nextInt(2));
    }
}
