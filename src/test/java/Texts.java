import java.util.Random;

/** Random texts of both languages: mostly right ones, some at the limits, some with a fault put in. */
final class Texts {
    private final Random random;
    private final boolean orders;
    private final StringBuilder text = new StringBuilder();
    private int brackets;

    Texts(Random random, boolean orders) {
        this.random = random;
        this.orders = orders;
    }

    private int below(int n) {
        return random.nextInt(n);
    }

    private boolean oneOf(int n) {
        return below(n) == 0;
    }

    String make() {
        int kind = below(16);
        if (kind == 0) {
            manyClauses();
        } else if (kind == 1) {
            manyParts();
        } else if (kind == 2) {
            manyBrackets();
        } else {
            clauses(1 + below(oneOf(3) ? 6 : 3));
        }
        if (oneOf(4)) {
            spoil();
        }
        if (text.length() > 400) {
            text.setLength(400);
        }
        return text.toString();
    }

    private void add(String token) {
        if (text.length() > 0) {
            char last = text.charAt(text.length() - 1);
            boolean mustPart = Character.isLetterOrDigit(last) && Character.isLetterOrDigit(token.charAt(0))
                && Character.isDigit(last) == Character.isDigit(token.charAt(0));
            if (mustPart || oneOf(3)) {
                text.append(' ');
            }
        }
        text.append(token);
    }

    private void clauses(int n) {
        for (int i = 0; i < n; i++) {
            if (i > 0) {
                add(";");
            }
            clause();
        }
    }

    private void clause() {
        if (orders) {
            String verb = oneOf(2) ? "put" : new String[] {"drop", "flush", "crash", "put"}[below(4)];
            add(verb);
            switch (verb) {
                case "put":
                    key();
                    add("as");
                    value();
                    break;
                case "drop":
                    key();
                    break;
                default:
                    amount();
                    break;
            }
            if (oneOf(4)) {
                add("times");
                add("" + (oneOf(12) ? below(25) : 1 + below(6)));
            }
        } else if (oneOf(2)) {
            add("costs");
            sum(2);
        } else {
            add("bars");
            if (oneOf(8)) {
                return;
            }
            add("if");
            test(2);
            return;
        }
        if (oneOf(2)) {
            add("if");
            test(2);
        }
    }

    private void key() {
        if (oneOf(4)) {
            sum(1);
        } else if (oneOf(2)) {
            add("done");
            add("*");
            add("" + below(40));
            add("+");
            add("" + below(30));
        } else {
            add("" + below(oneOf(3) ? 1000 : 60));
        }
    }

    private void value() {
        if (oneOf(3)) {
            sum(1);
            add("%");
            add("50");
        } else {
            add("" + below(100));
        }
    }

    private void amount() {
        add(oneOf(3) ? "" + below(5) : "waits");
        if (oneOf(2)) {
            add("/");
            add("" + below(4));
        }
    }

    private void test(int deep) {
        both(deep);
        while (oneOf(4)) {
            add("or");
            both(deep);
        }
    }

    private void both(int deep) {
        plain(deep);
        while (oneOf(4)) {
            add("and");
            plain(deep);
        }
    }

    private void plain(int deep) {
        while (oneOf(6)) {
            add("not");
        }
        if (deep > 0 && oneOf(4)) {
            add("(");
            test(deep - 1);
            add(")");
        } else {
            sum(deep);
            add(new String[] {"<", ">", "="}[below(3)]);
            sum(deep);
        }
    }

    private void sum(int deep) {
        term(deep);
        while (oneOf(4)) {
            add(oneOf(2) ? "+" : "-");
            term(deep);
        }
    }

    private void term(int deep) {
        part(deep);
        while (oneOf(4)) {
            add(new String[] {"*", "/", "%"}[below(3)]);
            part(deep);
        }
    }

    private void part(int deep) {
        if (deep > 0 && oneOf(6)) {
            add("[");
            sum(deep - 1);
            add("]");
        } else if (oneOf(2)) {
            add("" + (oneOf(9) ? 1000 : below(oneOf(4) ? 1000 : 8)));
        } else if (orders) {
            String[] words = {"time", "done", "latest", "deep", "waits", "keys", "value", "many"};
            String word = words[below(8)];
            add(word);
            if (word.equals("value")) {
                add("" + below(oneOf(3) ? 1000 : 20));
            } else if (word.equals("many")) {
                add("" + below(oneOf(3) ? 24 : 4));
            }
        } else {
            add(new String[] {"bucket", "depth", "many", "key", "hash", "time", "mood"}[below(7)]);
        }
    }

    /** Eleven to thirteen clauses. */
    private void manyClauses() {
        int n = 11 + below(3);
        for (int i = 0; i < n; i++) {
            if (i > 0) {
                add(";");
            }
            add(orders ? "put" : "costs");
            add("" + below(40));
            if (orders) {
                add("as");
                add("1");
            }
        }
    }

    /** 49 to 52 parts. */
    private void manyParts() {
        int n = 49 + below(4);
        add(orders ? "flush" : "costs");
        for (int i = 0; i < n; i++) {
            if (i > 0) {
                add(new String[] {"+", "-", "*"}[below(3)]);
            }
            if (oneOf(6)) {
                add(orders ? "many" : "key");
                if (orders) {
                    add("" + below(24));
                }
            } else {
                add("" + below(3));
            }
        }
    }

    /** Seven to nine brackets within one another, of both kinds. */
    private void manyBrackets() {
        int n = 7 + below(3);
        int round = below(n + 1);
        add(orders ? "flush" : "costs");
        add("0");
        add("if");
        for (int i = 0; i < round; i++) {
            add("(");
        }
        for (int i = round; i < n; i++) {
            add("[");
        }
        add("1");
        for (int i = round; i < n; i++) {
            add("]");
        }
        add("=");
        add("1");
        for (int i = 0; i < round; i++) {
            add(")");
        }
    }

    private void spoil() {
        int at = below(text.length() + 1);
        switch (below(5)) {
            case 0:
                text.setLength(at);
                break;
            case 1:
                text.insert(at, (char) below(256));
                break;
            case 2:
                text.insert(at, new String[] {" if ", " 1 ", ";", "(", "]", " not ", "1001", " as ", "+"}[below(9)]);
                break;
            case 3:
                if (at < text.length()) {
                    text.deleteCharAt(at);
                }
                break;
            default:
                text.insert(at, "  ");
                break;
        }
    }
}
