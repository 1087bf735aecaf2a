import java.util.ArrayList;
import java.util.List;
import java.util.Random;

/** Promises 6 to 38 on random lands and random acts, against the model. */
public final class ModelTest {
    private static FuneralPost x;
    private static Model m;
    private static List<Model> past;
    private static List<Model> undone;
    private static Model[] boxes;
    private static List<Model.Hint> hints;
    private static int time;
    private static String label;
    /* Nothing is promised behind the 512th call of an object. */
    private static int calls;

    private static int bits(boolean[] set) {
        int bits = 0;
        for (int i = 0; i < set.length; i++) {
            bits |= set[i] ? 1 << i : 0;
        }
        return bits;
    }

    private static int state(Model.Bier b) {
        return List.of("waiting", "stands", "underway", "buried").indexOf(b.state);
    }

    private static void due(String call, long got, long want) {
        calls++;
        Check.due(label + call, got, want);
    }

    private static void due(String call, boolean got, boolean want) {
        due(call, got ? 1 : 0, want ? 1 : 0);
    }

    private static void compareState() {
        for (int b = 0; b < m.biers.size(); b++) {
            compareBier(b);
        }
        for (int i = 0; i < m.letters.size(); i++) {
            compareLetter(i);
        }
        for (int what = 0; what < 12; what++) {
            compareAbout(what);
        }
    }

    private static void compareSome(Random r) {
        if (!m.biers.isEmpty()) {
            compareBier(r.nextInt(m.biers.size()));
        }
        if (!m.letters.isEmpty()) {
            compareLetter(r.nextInt(m.letters.size()));
        }
        compareAbout(r.nextInt(12));
        compareAbout(7);
        compareAbout(8);
    }

    private static void compareBier(int b) {
        Model.Bier bier = m.biers.get(b);
        int state = state(bier);
        int rest = 0;
        for (int v : m.rest(bier.village, m.told.get(b).home())) {
            rest |= 1 << v;
        }
        due("bier(" + b + ", 0)", x.bier(b, 0), state);
        due("bier(" + b + ", 1)", x.bier(b, 1), bier.village);
        due("bier(" + b + ", 2)", x.bier(b, 2), state == 1 || state == 2 ? bier.when : -1);
        due("bier(" + b + ", 3)", x.bier(b, 3), m.load(b));
        due("bier(" + b + ", 4)", x.bier(b, 4), m.told.get(b).home());
        due("bier(" + b + ", 5)", x.bier(b, 5), state == 1 ? rest : 0);
    }

    private static void compareLetter(int i) {
        Model.Letter l = m.letters.get(i);
        int[] want = {l.pile, l.bier, l.home, l.goal, l.last, l.worth, l.handed};
        for (int what = 0; what < want.length; what++) {
            due("letter(" + i + ", " + what + ")", x.letter(i, what), want[what]);
        }
    }

    private static void compareAbout(int what) {
        int home = 0;
        for (int i = 0; i < m.letters.size(); i++) {
            home |= m.letters.get(i).home >= 0 ? 1 << i : 0;
        }
        int[] about = {m.letters.size(), m.villages, m.ways.size(), m.biers.size(), m.day, bits(m.closed), home,
            past.size(), undone.size(), hints.size(), time, 0};
        due("about(" + what + ")", x.about(what), about[what]);
    }

    private static void act() {
        past.add(m.copy());
        if (past.size() > 40) {
            past.remove(0);
        }
        undone.clear();
    }

    private static void doOne(Random r) {
        int v = r.nextInt(m.villages);
        int u = r.nextInt(m.villages);
        switch (r.nextInt(14)) {
            case 0: {
                boolean can = v != u && m.letters.size() < 10;
                if (can) {
                    act();
                }
                due("post", x.post(v, u), can ? m.addLetter(v, u, 200, 1) : -1);
                break;
            }
            case 1: {
                int i = r.nextInt(10);
                int b = r.nextInt(6);
                boolean can = i < m.letters.size() && b < m.biers.size() && m.letters.get(i).pile >= 0 && m.stands(b)
                        && m.biers.get(b).village == m.letters.get(i).pile && m.load(b) < m.told.get(b).holds();
                if (can) {
                    act();
                    m.letters.get(i).pile = -1;
                    m.letters.get(i).bier = b;
                    m.letters.get(i).handed++;
                }
                due("hand", x.hand(i, b), can);
                break;
            }
            case 2: {
                int i = r.nextInt(10);
                boolean can = i < m.letters.size() && m.letters.get(i).bier >= 0 && m.stands(m.letters.get(i).bier);
                int from = -1;
                if (can) {
                    act();
                    from = m.letters.get(i).bier;
                    m.letters.get(i).bier = -1;
                    m.letters.get(i).pile = m.biers.get(from).village;
                }
                due("take", x.take(i), from);
                break;
            }
            case 3: {
                int w = r.nextInt(13);
                boolean can = w < m.ways.size();
                if (can) {
                    act();
                    m.closed[w] = !m.closed[w];
                }
                due("close", x.close(w), can ? m.closed[w] ? 1 : 0 : -1);
                break;
            }
            case 4: {
                boolean can = !past.isEmpty();
                due("undo", x.undo(), can);
                if (can) {
                    undone.add(m);
                    m = past.remove(past.size() - 1);
                }
                break;
            }
            case 5: {
                boolean can = !undone.isEmpty();
                due("redo", x.redo(), can);
                if (can) {
                    past.add(m);
                    m = undone.remove(undone.size() - 1);
                }
                break;
            }
            case 6: {
                int box = r.nextInt(3);
                due("image", x.image(box), m.day);
                boxes[box] = m.copy();
                break;
            }
            case 7: {
                int box = r.nextInt(3);
                boolean can = boxes[box] != null && r.nextInt(3) == 0;
                if (can) {
                    m = boxes[box].copy();
                    past.clear();
                    undone.clear();
                    due("back", x.back(box), m.day);
                }
                break;
            }
            default: {
                int count = 1 + r.nextInt(3);
                for (int i = 0; i < count && m.day < 300; i++) {
                    act();
                    due("day", x.day(), m.goBy());
                }
                break;
            }
        }
    }

    private static void askOne(Random r) {
        int v = r.nextInt(m.villages);
        int u = r.nextInt(m.villages);
        int a = m.biers.isEmpty() ? 0 : r.nextInt(m.biers.size());
        int b = m.biers.isEmpty() ? 0 : r.nextInt(m.biers.size());
        boolean two = a != b;
        int k = time - 3 + r.nextInt(5);
        due("far", x.far(v, u), m.far(v, u));
        switch (r.nextInt(14)) {
            case 0:
                Model end = m.atTheEnd();
                for (int i = 0; i < m.letters.size(); i++) {
                    due("comes(" + i + ")", x.comes(i), end.letters.get(i).home);
                }
                break;
            case 1:
                due("late", x.late(), m.late());
                break;
            case 2:
                due("worth", x.worth(), m.worth());
                break;
            case 3:
                due("stuck", x.stuck(), m.stuck());
                break;
            case 4:
                for (int what = 0; what < 2; what++) {
                    due("meets", x.meets(a, b, what), two ? m.meets(a, b)[what] : -1);
                }
                break;
            case 5:
                due("buried", x.buried(a), m.biers.isEmpty() ? -1 : m.buried(a));
                break;
            case 6:
                for (int what = 0; what < 3; what++) {
                    due("swap", x.swap(a, b, what), two ? m.swap(a, b)[what] : -1);
                }
                break;
            case 7: {
                int set = r.nextInt(1 << m.villages);
                int cover = m.cover(set);
                due("cover 0", x.cover(set, 0), cover < 0 ? -1 : Integer.bitCount(cover));
                due("cover 1", x.cover(set, 1), cover);
                break;
            }
            case 8:
                due("soon", x.soon(v, u), m.soon(v, u));
                break;
            case 9:
                due("heard", x.heard(v), m.heard(v));
                due("deaf", x.deaf(v), m.deaf(v));
                break;
            case 10: {
                int bars = v == u ? -1 : m.bars(v, u);
                due("bars 0", x.bars(v, u, 0), bars < 0 ? -1 : Integer.bitCount(bars));
                due("bars 1", x.bars(v, u, 1), bars);
                break;
            }
            case 11:
                compareTrace(v, u);
                break;
            case 12:
                tellOne(r, a);
                break;
            default:
                due("fit", x.fit(v, k), m.fit(v, hints, k));
                for (int what = 0; what < 2; what++) {
                    due("ask", x.ask(v, what, k), m.ask(v, hints, k)[what]);
                }
                break;
        }
    }

    private static void compareTrace(int v, int u) {
        List<Integer> route = v == u ? List.of(-1) : m.trace(v, u);
        int home = route.get(route.size() - 1);
        due("trace", x.trace(v, u), home);
        int lie = home < 0 ? 0 : route.size() - 1;
        due("about(13)", x.about(13), lie);
        for (int i = 0; i <= lie; i++) {
            due("lies(" + i + ")", x.lies(i), i < lie ? route.get(i) : -1);
        }
    }

    private static void tellOne(Random r, int bier) {
        if (r.nextInt(3) != 0) {
            boolean is = r.nextInt(3) != 0;
            boolean can = !m.biers.isEmpty() && hints.size() < 30;
            due("had", x.had(bier, is), can ? hints.size() : -1);
            if (can) {
                hints.add(new Model.Hint(bier, is, time, new int[] {-1}));
            }
        } else {
            int i = r.nextInt(30);
            boolean can = i < hints.size() && hints.get(i).untold()[0] < 0;
            due("untell", x.untell(i), can);
            if (can) {
                hints.get(i).untold()[0] = time;
            }
        }
        int by = r.nextInt(3);
        time += by;
        due("later", x.later(by), time);
    }

    /** Ways are closed till the last day is near: then biers are still on their ways on it. */
    private static void waitLong(Random r) {
        int days = 280 + r.nextInt(22);
        for (int w = 0; w < m.ways.size(); w++) {
            act();
            m.closed[w] = true;
            due("close", x.close(w), 1);
        }
        for (int i = 0; i < days; i++) {
            if (m.day < 300) {
                act();
                due("day", x.day(), m.goBy());
            } else {
                due("day", x.day(), -1);
            }
        }
        for (int w = 0; w < m.ways.size(); w++) {
            act();
            m.closed[w] = false;
            due("close", x.close(w), 0);
        }
    }

    private static void run(int seed) {
        Random r = new Random(seed);
        m = RandomLand.of(r);
        past = new ArrayList<>();
        undone = new ArrayList<>();
        boxes = new Model[3];
        hints = new ArrayList<>();
        time = 0;
        String text = m.text(r);
        label = "seed " + seed + " " + text + "\n  ";
        x = new FuneralPost();
        Check.due(label + "land", Check.land(x, text), m.toldLetters.size());
        calls = text.length() / 20 + 8;
        if (seed % 8 == 0) {
            waitLong(r);
        }
        while (calls < (seed % 8 == 0 ? 440 : 340)) {
            doOne(r);
            compareSome(r);
            askOne(r);
        }
        if (seed % 8 != 0) {
            compareState();
        }
    }

    public static void main(String[] args) {
        int runs = args.length > 0 ? Integer.parseInt(args[0]) : 1200;
        for (int seed = 0; seed < runs; seed++) {
            run(seed);
        }
        Check.finish();
    }
}
