import java.util.Random;

/**
 * Makes up texts. Few locals come more often than many, so that what is known of one meets a use
 * of it.
 */
final class Texts {
    private static final String SIGNS = "abcdefghnN@.=;?*{}!^%~&|x";

    private final Random random;

    Texts(Random random) {
        this.random = random;
    }

    /** A program, but for blocks that may stand too deep in one another. */
    String program() {
        while (true) {
            String text = statements(0, 1 + random.nextInt(7));
            if (text.length() <= 64) {
                return text;
            }
        }
    }

    /** A text with one character changed, added or left out. */
    String spoiled(String text) {
        int at = random.nextInt(text.length());
        String sign = "" + SIGNS.charAt(random.nextInt(SIGNS.length()));
        int kind = random.nextInt(3);
        String middle = kind == 0 ? "" : kind == 1 || text.length() == 64 ? sign : sign + text.charAt(at);
        return text.substring(0, at) + middle + text.substring(at + 1);
    }

    /**
     * Loops in loops in which the locals take from one another what all have at first: it is lost bit
     * by bit, and each loss has to come out of all the loops and in again before the next.
     */
    String loops() {
        while (true) {
            char first = anyLocal();
            String text = first + ".h=N;" + copies(first) + loop(1, 2 + random.nextInt(5));
            if (text.length() <= 64) {
                return text;
            }
        }
    }

    private String copies(char of) {
        StringBuilder all = new StringBuilder();
        for (int i = random.nextInt(5); i > 0; i--) {
            all.append(anyLocal()).append('=').append(of).append(';');
        }
        return all.toString();
    }

    private String loop(int depth, int deepest) {
        if (depth == deepest) {
            return "*%{" + takes(3) + "}";
        }
        String head = random.nextInt(8) == 0 ? "*" + anyLocal() + "{" : "*%{";
        return head + takes(2) + loop(depth + 1, deepest) + takes(2) + "}";
    }

    private String takes(int most) {
        StringBuilder all = new StringBuilder();
        for (int i = random.nextInt(most + 1); i > 0; i--) {
            String value = random.nextInt(4) == 0 ? anyLocal() + ".h" : "" + anyLocal();
            all.append(anyLocal()).append('=').append(value).append(';');
        }
        return all.toString();
    }

    private char anyLocal() {
        return (char) ('a' + random.nextInt(5));
    }

    private String statements(int depth, int count) {
        StringBuilder all = new StringBuilder();
        for (int i = 0; i < count; i++) {
            all.append(statement(depth));
        }
        return all.toString();
    }

    private String statement(int depth) {
        int choice = random.nextInt(20);
        if (choice < 7 && depth < 7) {
            String head = (choice < 4 ? "?" : "*") + condition() + block(depth);
            return choice < 2 ? head + block(depth) : head;
        }
        if (choice == 18) {
            return "!;";
        }
        if (choice == 19) {
            return "^;";
        }
        return name() + "=" + value() + ";";
    }

    private String block(int depth) {
        return "{" + statements(depth + 1, random.nextInt(4)) + "}";
    }

    private String condition() {
        StringBuilder all = new StringBuilder(atom());
        while (random.nextInt(3) == 0) {
            all.append(random.nextBoolean() ? "&" : "|").append(atom());
        }
        return all.toString();
    }

    private String atom() {
        if (random.nextInt(3) == 0) {
            return "%";
        }
        return (random.nextInt(3) == 0 ? "~" : "") + name();
    }

    private String value() {
        int choice = random.nextInt(8);
        return choice == 0 ? "n" : choice == 1 ? "@" : choice < 4 ? "N" : name();
    }

    private String name() {
        String local = "aaabbbcde".charAt(random.nextInt(9)) + "";
        int choice = random.nextInt(6);
        return choice == 0 ? local + ".g" : choice < 3 ? local + ".h" : local;
    }
}
