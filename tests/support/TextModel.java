import java.util.ArrayList;
import java.util.HashSet;
import java.util.List;
import java.util.Set;

/** "Terms" once more, written apart from the class: which text is a land, and which FAULT another one has first. */
public final class TextModel {
    private static final Set<String> WORDS = Set.of("village", "way", "bier", "letter", "wait", "winter", "from", "to", "on", "holds",
            "at", "by", "worth", "or", "and", "not", "day", "ways", "rest");

    /** A fault ends the reading. */
    private static final class Fault extends RuntimeException {
        private static final long serialVersionUID = 1L;

        Fault(String why) {
            super(why, null, false, false);
        }
    }

    /* The text of a token; "$" for what is none, "" for the end. */
    private record Token(String text, int place) { }

    int fault;
    int place = -1;
    final List<String> villages = new ArrayList<>();
    final Set<String> ways = new HashSet<>();
    final List<String> biers = new ArrayList<>();
    final List<String> letters = new ArrayList<>();
    int waits;
    int winters;
    int units;
    private final List<Token> tokens = new ArrayList<>();
    private int next;

    TextModel(String text) {
        cut(text);
        try {
            while (!now().isEmpty()) {
                line();
            }
        } catch (Fault f) {
            place = tokens.get(next).place();
        }
    }

    private void cut(String text) {
        int i = 0;
        while (i < text.length()) {
            String rest = text.substring(i);
            String token;
            if (rest.charAt(0) == ' ' || rest.charAt(0) == '\n') {
                i++;
                continue;
            } else if (rest.matches("(?s)[a-z].*")) {
                token = rest.replaceFirst("(?s)[^a-z].*", "");
                i += token.length();
                tokens.add(new Token(token.length() > 8 ? "$" : token, i - token.length()));
            } else if (rest.matches("(?s)[0-9].*")) {
                token = rest.replaceFirst("(?s)[^0-9].*", "");
                i += token.length();
                boolean letterBehind = i < text.length() && text.charAt(i) >= 'a' && text.charAt(i) <= 'z';
                tokens.add(new Token(token.length() > 4 || letterBehind ? "$" : token, i - token.length()));
            } else {
                token = rest.substring(0, 1);
                tokens.add(new Token(";()<>=+-*/%".contains(token) ? token : "$", i));
                i++;
            }
        }
        tokens.add(new Token("", text.length()));
    }

    private String now() {
        return tokens.get(next).text();
    }

    private Fault fail(int what) {
        fault = now().equals("$") ? 1 : what;
        return new Fault("fault " + fault);
    }

    private void take(String word) {
        if (!now().equals(word)) {
            throw fail(2);
        }
        next++;
    }

    private boolean took(String word) {
        boolean is = now().equals(word);
        next += is ? 1 : 0;
        return is;
    }

    private boolean seesName() {
        return now().matches("[a-z]+") && !WORDS.contains(now());
    }

    private void newName(List<String> told) {
        if (!seesName()) {
            throw fail(2);
        }
        if (told.contains(now())) {
            throw fail(3);
        }
        told.add(now());
        next++;
    }

    private String village(String unlike) {
        if (!seesName()) {
            throw fail(2);
        }
        if (!villages.contains(now())) {
            throw fail(5);
        }
        if (now().equals(unlike)) {
            throw fail(3);
        }
        next++;
        return tokens.get(next - 1).text();
    }

    private int number(int least, int most) {
        if (!now().matches("[0-9]+")) {
            throw fail(2);
        }
        int n = Integer.parseInt(now());
        if (n < least || n > most) {
            throw fail(4);
        }
        next++;
        return n;
    }

    private void room(boolean is) {
        if (!is) {
            throw fail(2);
        }
        next++;
    }

    private void line() {
        switch (now()) {
            case "village" -> {
                room(villages.size() < 7);
                newName(villages);
            }
            case "way" -> {
                room(ways.size() < 2 * 12);
                String a = village("");
                int second = next;
                String b = village(a);
                if (ways.contains(a + " " + b)) {
                    next = second;
                    throw fail(3);
                }
                number(1, 9);
                ways.add(a + " " + b);
                ways.add(b + " " + a);
            }
            case "bier" -> {
                room(biers.size() < 6);
                newName(biers);
                take("from");
                String a = village("");
                take("to");
                village(a);
                take("on");
                number(0, 60);
                if (took("holds")) {
                    number(1, 9);
                }
            }
            case "letter" -> {
                room(letters.size() < 8);
                newName(letters);
                take("at");
                String a = village("");
                take("to");
                village(a);
                if (took("by")) {
                    number(0, 200);
                }
                if (took("worth")) {
                    number(1, 9);
                }
            }
            case "wait" -> {
                room(waits++ == 0);
                either(0);
            }
            case "winter" -> {
                room(winters++ == 0);
                int first = number(0, 200);
                take("to");
                number(first, 200);
            }
            default -> throw fail(2);
        }
        take(";");
    }

    private void either(int within) {
        do {
            do {
                one(within);
            } while (took("and"));
        } while (took("or"));
    }

    private void one(int within) {
        if (now().equals("not")) {
            room(within < 7);
            one(within + 1);
            return;
        }
        sum(within);
        if (took("<") || took(">") || took("=")) {
            sum(within);
        }
    }

    private void sum(int within) {
        do {
            do {
                unit(within);
            } while (took("*") || took("/") || took("%"));
        } while (took("+") || took("-"));
    }

    private void unit(int within) {
        boolean bracket = now().equals("(");
        boolean plain = now().matches("[0-9]+|day|holds|ways|rest");
        room((plain || bracket && within < 7) && units < 30);
        units++;
        if (bracket) {
            either(within + 1);
            take(")");
        }
    }
}
