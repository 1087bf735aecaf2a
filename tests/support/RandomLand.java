import java.util.Random;

/** Lands and formulas by a seed. */
public final class RandomLand {
    private RandomLand() {
    }

    static Model of(Random r) {
        Model m = new Model();
        m.villages = 2 + r.nextInt(6);
        int dense = 1 + r.nextInt(100);
        int longest = 1 + r.nextInt(r.nextInt(4) == 0 ? 9 : 3);
        for (int a = 0; a < m.villages; a++) {
            for (int b = 0; b < m.villages; b++) {
                boolean known = false;
                for (Model.Way w : m.ways) {
                    known |= w.a() == b && w.b() == a;
                }
                if (a != b && !known && m.ways.size() < 12 && r.nextInt(100) < dense) {
                    m.ways.add(new Model.Way(a, b, 1 + r.nextInt(longest)));
                }
            }
        }
        java.util.Collections.shuffle(m.ways, r);
        int biers = r.nextInt(7);
        int starts = 1 + r.nextInt(r.nextInt(3) == 0 ? 61 : 6);
        for (int i = 0; i < biers; i++) {
            int from = r.nextInt(m.villages);
            int home = (from + 1 + r.nextInt(m.villages - 1)) % m.villages;
            m.told.add(new Model.BierTold(from, home, r.nextInt(starts), r.nextInt(3) == 0 ? 2 : 1 + r.nextInt(9)));
        }
        int letters = r.nextInt(9);
        for (int i = 0; i < letters; i++) {
            int at = r.nextInt(m.villages);
            int goal = (at + 1 + r.nextInt(m.villages - 1)) % m.villages;
            int last = r.nextInt(3) == 0 ? 200 : r.nextInt(40);
            m.toldLetters.add(new Model.LetterTold(at, goal, last, r.nextInt(3) == 0 ? 1 : 1 + r.nextInt(9)));
        }
        if (r.nextInt(4) != 0) {
            m.wait = either(r, 0, new int[] {29});
        }
        if (r.nextInt(3) == 0) {
            m.winterFirst = r.nextInt(30);
            m.winterLast = m.winterFirst + r.nextInt(r.nextInt(4) == 0 ? 170 : 20);
        }
        m.begin();
        return m;
    }

    /** A formula of two parts, by the sign between them. */
    record Two(Model.Formula left, String sign, Model.Formula right) implements Model.Formula {
        public String text() {
            return left.text() + " " + sign + " " + right.text();
        }

        public int value(int day, int holds, int ways, int rest) {
            int a = left.value(day, holds, ways, rest);
            int b = right.value(day, holds, ways, rest);
            switch (sign) {
                case "or": return a != 0 || b != 0 ? 1 : 0;
                case "and": return a != 0 && b != 0 ? 1 : 0;
                case "<": return a < b ? 1 : 0;
                case ">": return a > b ? 1 : 0;
                case "=": return a == b ? 1 : 0;
                case "+": return a + b;
                case "-": return a - b;
                case "*": return a * b;
                case "/": return b == 0 ? 0 : a / b;
                default: return b == 0 ? 0 : a % b;
            }
        }
    }

    record Word(String text) implements Model.Formula {
        public int value(int day, int holds, int ways, int rest) {
            switch (text) {
                case "day": return day;
                case "holds": return holds;
                case "ways": return ways;
                case "rest": return rest;
                default: return Integer.parseInt(text);
            }
        }
    }

    record Around(String before, Model.Formula inner, String behind) implements Model.Formula {
        public String text() {
            return before + inner.text() + behind;
        }

        public int value(int day, int holds, int ways, int rest) {
            int value = inner.value(day, holds, ways, rest);
            return before.equals("(") ? value : value == 0 ? 1 : 0;
        }
    }

    static Model.Formula either(Random r, int within, int[] left) {
        Model.Formula f = both(r, within, left);
        while (left[0] > 0 && r.nextInt(6) == 0) {
            f = new Two(f, "or", both(r, within, left));
        }
        return f;
    }

    private static Model.Formula both(Random r, int within, int[] left) {
        Model.Formula f = one(r, within, left);
        while (left[0] > 0 && r.nextInt(6) == 0) {
            f = new Two(f, "and", one(r, within, left));
        }
        return f;
    }

    private static Model.Formula one(Random r, int within, int[] left) {
        if (within < 7 && r.nextInt(8) == 0) {
            return new Around("not ", one(r, within + 1, left), "");
        }
        Model.Formula f = sum(r, within, left);
        if (left[0] > 0 && r.nextInt(4) == 0) {
            f = new Two(f, new String[] {"<", ">", "="}[r.nextInt(3)], sum(r, within, left));
        }
        return f;
    }

    private static Model.Formula sum(Random r, int within, int[] left) {
        Model.Formula f = term(r, within, left);
        while (left[0] > 0 && r.nextInt(3) == 0) {
            f = new Two(f, r.nextBoolean() ? "+" : "-", term(r, within, left));
        }
        return f;
    }

    private static Model.Formula term(Random r, int within, int[] left) {
        Model.Formula f = unit(r, within, left);
        while (left[0] > 0 && r.nextInt(3) == 0) {
            f = new Two(f, new String[] {"*", "/", "%"}[r.nextInt(3)], unit(r, within, left));
        }
        return f;
    }

    private static Model.Formula unit(Random r, int within, int[] left) {
        left[0]--;
        if (within < 7 && left[0] > 0 && r.nextInt(5) == 0) {
            return new Around("(", either(r, within + 1, left), ")");
        }
        String[] words = {"day", "holds", "ways", "rest"};
        int which = r.nextInt(7);
        return new Word(which < 4 ? words[which] : Integer.toString(r.nextInt(which == 4 ? 10000 : 5)));
    }
}
