import java.util.Random;

/** No call throws or fails to end, whatever comes: any bytes as a land, any numbers, in any state. */
public final class AnyArgumentsTest {
    private static final String[] PIECES = {"village ", "way ", "bier ", "letter ", "wait ", "winter ", "from ", "to ", "on ",
        "holds ", "at ", "by ", "worth ", "or ", "and ", "not ", "day ", "ways ", "rest ", "a ", "b ", "c ", "d ", "e ",
        "1 ", "2 ", "7 ", "60 ", "200 ", "300 ", ";", "(", ")", "<", ">", "=", "+", "-", "*", "/", "%", "\n", "$", "abcdefghi ",
        "99999 ", "1x "};

    private static int any(Random r) {
        switch (r.nextInt(8)) {
            case 0: return r.nextInt();
            case 1: return Integer.MIN_VALUE + r.nextInt(3);
            case 2: return Integer.MAX_VALUE - r.nextInt(3);
            case 3: return -r.nextInt(4);
            case 4: return r.nextInt(320);
            default: return r.nextInt(8);
        }
    }

    private static int call(FuneralPost x, Random r) {
        int a = any(r);
        int b = any(r);
        int c = any(r);
        switch (r.nextInt(37)) {
            case 0: return x.feed(a, b, c, any(r), any(r));
            case 1: return x.end(a);
            case 2: return r.nextInt(30) == 0 ? x.land() : 0;
            case 3: return x.fault(a);
            case 4: return x.bier(a, b);
            case 5: return x.letter(a, b);
            case 6: return x.village(a, b);
            case 7: return x.far(a, b);
            case 8: return x.day();
            case 9: return x.post(a, b);
            case 10: return x.hand(a, b) ? 1 : 0;
            case 11: return x.take(a);
            case 12: return x.close(a);
            case 13: return x.undo() ? 1 : 0;
            case 14: return x.redo() ? 1 : 0;
            case 15: return x.comes(a);
            case 16: return x.late();
            case 17: return x.worth();
            case 18: return x.stuck();
            case 19: return x.meets(a, b, c);
            case 20: return x.buried(a);
            case 21: return x.swap(a, b, c);
            case 22: return x.cover(a, b);
            case 23: return x.soon(a, b);
            case 24: return x.heard(a);
            case 25: return x.deaf(a);
            case 26: return x.bars(a, b, c);
            case 27: return x.trace(a, b);
            case 28: return x.lies(a);
            case 29: return x.had(a, r.nextBoolean());
            case 30: return x.untell(a) ? 1 : 0;
            case 31: return x.later(a);
            case 32: return x.fit(a, b);
            case 33: return x.ask(a, b, c);
            case 34: return x.image(a);
            case 35: return x.back(a);
            default: return x.about(a);
        }
    }

    private static String anyText(Random r) {
        StringBuilder s = new StringBuilder();
        if (r.nextInt(3) == 0) {
            Model m = RandomLand.of(r);
            s.append(m.text(r));
            for (int i = r.nextInt(4); i > 0 && s.length() > 0; i--) {
                s.setCharAt(r.nextInt(s.length()), (char) (r.nextBoolean() ? r.nextInt(256) : "; a(b1)<".charAt(r.nextInt(8))));
            }
        } else if (r.nextInt(2) == 0) {
            for (int i = r.nextInt(200); i > 0; i--) {
                s.append(PIECES[r.nextInt(PIECES.length)]);
            }
        } else {
            String piece = PIECES[r.nextInt(PIECES.length)];
            s.append("wait ");
            for (int i = r.nextInt(1600); i > 0; i--) {
                s.append(piece);
            }
        }
        s.setLength(Math.min(s.length(), 1600));
        return s.toString();
    }

    /** What a fault is good for: text ahead of it is not at fault, or not there. */
    private static void faultIsInTheText(FuneralPost x, String text) {
        int letters = Check.land(x, text);
        int fault = x.fault(0);
        Check.due("fault of " + text, letters < 0, fault != 0);
        Check.due("place of " + text, fault == 0 ? x.fault(1) == -1 : x.fault(1) >= 0 && x.fault(1) <= text.length(), true);
        Check.due("kind of " + text, fault >= 0 && fault <= 5, true);
        if (fault != 0) {
            int place = x.fault(1);
            Check.land(x, text.substring(0, place));
            boolean endsThere = x.fault(0) == 0 || x.fault(0) == 2 && x.fault(1) == place
                    || place > 0 && x.fault(1) >= 0 && x.fault(1) < place;
            Check.due("text ahead of the fault of " + text, endsThere, true);
        }
    }

    public static void main(String[] args) {
        for (int seed = 0; seed < 300; seed++) {
            Random r = new Random(seed);
            FuneralPost x = new FuneralPost();
            if (seed % 4 != 0) {
                Check.land(x, RandomLand.of(r).text(r));
            }
            for (int i = 0; i < 440; i++) {
                call(x, r);
            }
        }
        for (int seed = 0; seed < 3000; seed++) {
            faultIsInTheText(new FuneralPost(), anyText(new Random(seed)));
        }
        Check.finish();
    }
}
