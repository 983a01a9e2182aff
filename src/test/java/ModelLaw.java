import java.util.ArrayList;
import java.util.List;
import java.util.regex.Matcher;
import java.util.regex.Pattern;

/** THE LAW once more: the text is walked anew for each question, by tokens that a pattern finds. */
final class ModelLaw {
    private static final class Stop extends RuntimeException {
        private static final long serialVersionUID = 1L;
    }

    private static final Pattern TOKEN = Pattern.compile("[a-zA-Z]+|[0-9]+|[\\s\\S]");
    private static final List<String> VALUES = List.of("common", "lack", "more", "many", "others", "head");

    final List<String> tokens = new ArrayList<>();
    final List<Integer> places = new ArrayList<>();
    int at;
    int open;
    int fault = 0;
    int faultPlace = -1;
    int[] values = new int[6];

    ModelLaw(String text) {
        Matcher m = TOKEN.matcher(text);
        while (m.find()) {
            if (!m.group().equals(" ") && !m.group().equals("\n")) {
                tokens.add(m.group());
                places.add(m.start());
            }
        }
        tokens.add("");
        places.add(text.length());
    }

    int check() {
        try {
            return lines(false);
        } catch (Stop s) {
            return -1;
        }
    }

    boolean fixes(int[] marks, int head, int set) {
        int all = 0;
        for (int i = 0; i < marks.length; i++) {
            all |= (set & 1 << i) != 0 ? marks[i] : 0;
        }
        int others = 0;
        for (int i = 0; i < marks.length; i++) {
            others += i != head && (set & 1 << i) == 0 && (marks[i] | all) == all ? 1 : 0;
        }
        values = new int[] {Integer.bitCount(marks[head] & all), Integer.bitCount(marks[head] & ~all),
            Integer.bitCount(all & ~marks[head]), Integer.bitCount(set), others, head};
        return lines(true) == 1;
    }

    private int lines(boolean ask) {
        at = 0;
        int lines = 0;
        while (!peek().isEmpty()) {
            boolean fix = peek().equals("fix");
            if (!fix && !peek().equals("loose")) {
                stop(1);
            }
            if (lines == 16) {
                stop(3);
            }
            at++;
            boolean so = true;
            if (peek().equals("when")) {
                at++;
                so = either();
            }
            take(";");
            lines++;
            if (ask && so) {
                return fix ? 1 : 0;
            }
        }
        return ask ? 0 : lines;
    }

    private String peek() {
        return tokens.get(at);
    }

    private void stop(int which) {
        fault = which;
        faultPlace = places.get(at);
        throw new Stop();
    }

    private void take(String token) {
        if (!peek().equals(token)) {
            stop(1);
        }
        at++;
    }

    private boolean skip(String token) {
        if (peek().equals(token)) {
            at++;
            return true;
        }
        return false;
    }

    private boolean either() {
        boolean so = both();
        while (skip("or")) {
            so |= both();
        }
        return so;
    }

    private boolean both() {
        boolean so = condition();
        while (skip("and")) {
            so &= condition();
        }
        return so;
    }

    private boolean condition() {
        boolean not = peek().equals("not");
        if (not || peek().equals("(")) {
            if (open == 8) {
                stop(3);
            }
            open++;
            at++;
            boolean so = not ? !condition() : either();
            if (!not) {
                take(")");
            }
            open--;
            return so;
        }
        int a = sum();
        String by = peek();
        if (!by.equals("<") && !by.equals("=") && !by.equals(">")) {
            stop(1);
        }
        at++;
        int b = sum();
        return by.equals("<") ? a < b : by.equals("=") ? a == b : a > b;
    }

    private int sum() {
        int v = product();
        while (true) {
            if (skip("+")) {
                v += product();
            } else if (skip("-")) {
                v -= product();
            } else {
                return v;
            }
        }
    }

    private int product() {
        int v = unit();
        while (true) {
            if (skip("*")) {
                v *= unit();
            } else if (skip("/")) {
                if (!isNumber()) {
                    stop(1);
                }
                if (Integer.parseInt(peek()) == 0) {
                    stop(2);
                }
                v /= unit();
            } else {
                return v;
            }
        }
    }

    private boolean isNumber() {
        return peek().matches("[0-9]{1,4}");
    }

    private int unit() {
        if (isNumber()) {
            return Integer.parseInt(tokens.get(at++));
        }
        if (!VALUES.contains(peek())) {
            stop(1);
        }
        return values[VALUES.indexOf(tokens.get(at++))];
    }
}
