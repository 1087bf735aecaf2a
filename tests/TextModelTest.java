import java.util.Random;

/** Promises 3 to 5 on texts by chance, lands with something changed in them, against a model of "Terms". */
public final class TextModelTest {
    private static final String[] PIECES = {"village", "way", "bier", "letter", "wait", "winter", "from", "to", "on", "holds", "at",
        "by", "worth", "or", "and", "not", "day", "ways", "rest", "a", "b", "c", "d", "e", "f", "g", "h", "abcdefgh", "abcdefghi", "0",
        "1", "2", "9", "10", "60", "61", "200", "201", "9999", "12345", "1a", ";", "(", ")", "<", ">", "=", "+", "-", "*", "/", "%", "$",
        "A", "\u00e9", "\t"};
    private static final int[] seen = new int[6];

    private static String piece(Random r) {
        return PIECES[r.nextInt(PIECES.length)];
    }

    private static String name(Random r) {
        return String.valueOf((char) ('a' + r.nextInt(r.nextInt(8) == 0 ? 9 : 5)));
    }

    private static String newName(Random r) {
        return String.valueOf((char) ('a' + r.nextInt(26))) + (char) ('a' + r.nextInt(3));
    }

    private static int number(Random r, int least, int most) {
        return r.nextInt(5) == 0 ? r.nextInt(2) == 0 ? Math.max(0, least - r.nextInt(2)) : most + r.nextInt(2)
                : least + r.nextInt(most - least + 1);
    }

    private static String sum(Random r, int deep) {
        StringBuilder s = new StringBuilder();
        int parts = 1 + r.nextInt(deep == 0 ? 12 : 3);
        for (int i = 0; i < parts; i++) {
            if (i > 0) {
                s.append(' ').append(new String[] {"+", "-", "*", "/", "%", "<", ">", "=", "and", "or"}[r.nextInt(10)]).append(' ');
            }
            while (r.nextInt(6) == 0) {
                s.append("not ");
            }
            if (deep < 12 && r.nextInt(deep < 4 ? 3 : 2) == 0) {
                s.append("( ").append(sum(r, deep + 1)).append(" )");
            } else {
                s.append(new String[] {"day", "holds", "ways", "rest", "1", "20"}[r.nextInt(6)]);
            }
        }
        return s.toString();
    }

    private static String line(Random r) {
        switch (r.nextInt(r.nextInt(3) == 0 ? 6 : 4)) {
            case 0: return "village " + (r.nextBoolean() ? name(r) : newName(r)) + " ;";
            case 1: return "way " + name(r) + " " + name(r) + " " + number(r, 1, 9) + " ;";
            case 2: return "bier " + newName(r) + " from " + name(r) + " to " + name(r) + " on " + number(r, 0, 60)
                    + (r.nextBoolean() ? " holds " + number(r, 1, 9) : "") + " ;";
            case 3: return "letter " + newName(r) + " at " + name(r) + " to " + name(r) + (r.nextBoolean() ? " by " + number(r, 0, 200) : "")
                    + (r.nextBoolean() ? " worth " + number(r, 1, 9) : "") + " ;";
            case 4: return "wait " + sum(r, 0) + " ;";
            default: return "winter " + number(r, 0, 200) + " to " + number(r, 0, 200) + " ;";
        }
    }

    private static String land(Random r) {
        StringBuilder s = new StringBuilder();
        switch (r.nextInt(4)) {
            case 0:
                s.append(RandomLand.of(r).text(r));
                break;
            case 1:
                s.append(Texts.FULL);
                break;
            default:
                int villages = r.nextInt(3) == 0 ? r.nextInt(8) : 5;
                for (int i = 0; i < villages; i++) {
                    s.append("village ").append((char) ('a' + i)).append(" ; ");
                }
                break;
        }
        for (int i = r.nextInt(7); i > 0; i--) {
            s.append(' ').append(line(r));
        }
        return s.toString();
    }

    /** Some tokens of it lost, doubled, put elsewhere, or another one in their place. */
    private static String changed(Random r, String text) {
        String[] tokens = text.replaceAll("([;()<>=+*/%-])", " $1 ").trim().split("[ \n]+");
        for (int i = r.nextInt(4) - 1; i > 0; i--) {
            int at = r.nextInt(tokens.length);
            switch (r.nextInt(5)) {
                case 0: tokens[at] = ""; break;
                case 1: tokens[at] += " " + tokens[at]; break;
                case 2: tokens[at] = tokens[r.nextInt(tokens.length)]; break;
                case 3: tokens[at] = piece(r); break;
                default: tokens[at] = piece(r) + " " + tokens[at]; break;
            }
        }
        StringBuilder s = new StringBuilder();
        for (String token : tokens) {
            boolean part = s.length() > 0 && isWordOrNumber(s.charAt(s.length() - 1)) && !token.isEmpty() && isWordOrNumber(token.charAt(0));
            s.append(part && r.nextInt(40) != 0 || r.nextInt(3) == 0 ? r.nextInt(9) == 0 ? "\n" : " " : "").append(token);
        }
        if (r.nextInt(8) == 0 && s.length() > 0) {
            s.setCharAt(r.nextInt(s.length()), (char) r.nextInt(256));
        }
        if (r.nextInt(8) == 0) {
            s.setLength(r.nextInt(s.length() + 1));
        }
        s.setLength(Math.min(s.length(), 1600));
        return s.toString();
    }

    private static boolean isWordOrNumber(char c) {
        return c >= 'a' && c <= 'z' || c >= '0' && c <= '9';
    }

    private static void compare(String text) {
        TextModel m = new TextModel(text);
        FuneralPost x = new FuneralPost();
        boolean good = m.fault == 0;
        seen[m.fault]++;
        Check.due("land() of " + text, Check.land(x, text), good ? m.letters.size() : -1);
        Check.due("fault(0) of " + text, x.fault(0), m.fault);
        Check.due("fault(1) of " + text, x.fault(1), m.place);
        int[] about = {m.letters.size(), m.villages.size(), m.ways.size() / 2, m.biers.size()};
        for (int what = 0; what < about.length; what++) {
            Check.due("about(" + what + ") of " + text, x.about(what), good ? about[what] : 0);
        }
        Check.due("about(12) of " + text, x.about(12), good ? m.units : 0);
        Check.due("about(11) of " + text, x.about(11), 0);
    }

    public static void main(String[] args) {
        int runs = args.length > 0 ? Integer.parseInt(args[0]) : 6000;
        for (int seed = 0; seed < runs; seed++) {
            Random r = new Random(seed);
            compare(changed(r, land(r)));
        }
        for (int fault = 0; fault < seen.length; fault++) {
            Check.due("texts of fault " + fault + " are many", seen[fault] > runs / 50, true);
        }
        Check.finish();
    }
}
