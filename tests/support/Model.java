import java.util.ArrayList;
import java.util.List;
import java.util.Random;

/**
 * The document once more, written apart from the class: slow, with lists and records, every question answered
 * by trying all that could be. The tests compare the two on random lands.
 */
public final class Model {
    static final int END = 300;

    record Way(int a, int b, int days) { }

    record BierTold(int from, int home, int start, int holds) { }

    record LetterTold(int at, int goal, int last, int worth) { }

    /** A formula with its text and its value. */
    interface Formula {
        String text();

        int value(int day, int holds, int ways, int rest);
    }

    static final class Bier {
        String state = "waiting";
        int village;
        int when = -1;
    }

    static final class Letter {
        int pile = -1;
        int bier = -1;
        int home = -1;
        int handed;
        int goal;
        int last;
        int worth;
    }

    record Hint(int bier, boolean is, int told, int[] untold) { }

    int villages;
    List<Way> ways = new ArrayList<>();
    List<BierTold> told = new ArrayList<>();
    List<LetterTold> toldLetters = new ArrayList<>();
    Formula wait;
    int winterFirst = -1;
    int winterLast = -1;

    int day;
    boolean[] closed;
    List<Bier> biers = new ArrayList<>();
    List<Letter> letters = new ArrayList<>();

    void begin() {
        day = 0;
        closed = new boolean[ways.size()];
        biers = new ArrayList<>();
        letters = new ArrayList<>();
        for (BierTold b : told) {
            Bier bier = new Bier();
            bier.village = b.from();
            biers.add(bier);
        }
        for (LetterTold l : toldLetters) {
            addLetter(l.at(), l.goal(), l.last(), l.worth());
        }
    }

    int addLetter(int at, int goal, int last, int worth) {
        Letter letter = new Letter();
        letter.pile = at;
        letter.goal = goal;
        letter.last = last;
        letter.worth = worth;
        letters.add(letter);
        return letters.size() - 1;
    }

    Model copy() {
        Model m = new Model();
        m.villages = villages;
        m.ways = ways;
        m.told = told;
        m.toldLetters = toldLetters;
        m.wait = wait;
        m.winterFirst = winterFirst;
        m.winterLast = winterLast;
        m.day = day;
        m.closed = closed.clone();
        for (Bier b : biers) {
            Bier c = new Bier();
            c.state = b.state;
            c.village = b.village;
            c.when = b.when;
            m.biers.add(c);
        }
        for (Letter l : letters) {
            int i = m.addLetter(l.pile, l.goal, l.last, l.worth);
            m.letters.get(i).bier = l.bier;
            m.letters.get(i).home = l.home;
            m.letters.get(i).handed = l.handed;
        }
        return m;
    }

    /** The fewest days over all walks that come twice nowhere. */
    int far(int from, int to) {
        return farWithout(from, to, 0);
    }

    private int farWithout(int from, int to, int been) {
        if (from == to) {
            return 0;
        }
        int best = 1000;
        for (int w = 0; w < ways.size(); w++) {
            int next = otherEnd(w, from);
            if (!closed[w] && next >= 0 && (been >> next & 1) == 0) {
                best = Math.min(best, ways.get(w).days() + farWithout(next, to, been | 1 << from));
            }
        }
        return best;
    }

    private int otherEnd(int way, int village) {
        Way w = ways.get(way);
        return w.a() == village ? w.b() : w.b() == village ? w.a() : -1;
    }

    private int wayBetween(int a, int b) {
        for (int w = 0; w < ways.size(); w++) {
            if (otherEnd(w, a) == b) {
                return w;
            }
        }
        return -1;
    }

    List<Integer> rest(int village, int home) {
        List<Integer> rest = new ArrayList<>();
        rest.add(village);
        int v = village;
        while (v != home && far(v, home) < 1000) {
            int best = -1;
            int least = 1000;
            for (int u = 0; u < villages; u++) {
                int w = wayBetween(v, u);
                if (w >= 0 && !closed[w] && ways.get(w).days() + far(u, home) < least) {
                    best = u;
                    least = ways.get(w).days() + far(u, home);
                }
            }
            v = best;
            rest.add(v);
        }
        return rest;
    }

    boolean stands(int bier) {
        return biers.get(bier).state.equals("stands");
    }

    boolean isBuried(int bier) {
        return biers.get(bier).state.equals("buried");
    }

    int load(int bier) {
        int count = 0;
        for (Letter l : letters) {
            count += l.bier == bier ? 1 : 0;
        }
        return count;
    }

    void arrive() {
        for (int b = 0; b < biers.size(); b++) {
            Bier bier = biers.get(b);
            BierTold t = told.get(b);
            boolean came = bier.state.equals("waiting") && t.start() == day
                    || bier.state.equals("underway") && bier.when == day;
            if (came) {
                bier.state = "stands";
                int open = 0;
                for (int w = 0; w < ways.size(); w++) {
                    open += !closed[w] && otherEnd(w, bier.village) >= 0 ? 1 : 0;
                }
                int stay = wait == null ? 0 : wait.value(day, t.holds(), open, far(bier.village, t.home()));
                bier.when = day + (stay < 0 ? 0 : stay > 9 ? 9 : stay);
                if (bier.village == t.home()) {
                    bier.state = "buried";
                    bier.when = day;
                    for (Letter l : letters) {
                        if (l.bier == b) {
                            l.bier = -1;
                            l.pile = bier.village;
                        }
                    }
                }
            }
        }
    }

    int bringHome() {
        int count = 0;
        for (Letter l : letters) {
            if (l.home < 0 && (l.pile == l.goal || l.bier >= 0 && stands(l.bier) && biers.get(l.bier).village == l.goal)) {
                l.home = day;
                l.pile = -1;
                l.bier = -1;
                count++;
            }
        }
        return count;
    }

    int near(int bier, int goal) {
        int least = 1000;
        for (int v : rest(biers.get(bier).village, told.get(bier).home())) {
            least = Math.min(least, far(v, goal));
        }
        return least;
    }

    void handOn() {
        for (int v = 0; v < villages; v++) {
            for (Letter l : letters) {
                boolean here = l.pile == v || l.bier >= 0 && stands(l.bier) && biers.get(l.bier).village == v;
                if (l.home >= 0 || !here) {
                    continue;
                }
                int least = 1000;
                List<Integer> candidates = new ArrayList<>();
                for (int b = 0; b < biers.size(); b++) {
                    if (stands(b) && biers.get(b).village == v && (l.bier == b || load(b) < told.get(b).holds())) {
                        int near = near(b, l.goal);
                        if (near < least) {
                            least = near;
                            candidates.clear();
                        }
                        if (near == least) {
                            candidates.add(b);
                        }
                    }
                }
                if (candidates.isEmpty() || least >= far(v, l.goal)) {
                    l.pile = v;
                    l.bier = -1;
                } else if (!candidates.contains(l.bier)) {
                    l.pile = -1;
                    l.bier = candidates.get(0);
                    l.handed++;
                }
            }
        }
    }

    void depart() {
        if (day < winterFirst || day > winterLast || winterFirst < 0) {
            for (int b = 0; b < biers.size(); b++) {
                Bier bier = biers.get(b);
                if (stands(b) && day >= bier.when) {
                    List<Integer> rest = rest(bier.village, told.get(b).home());
                    if (rest.size() > 1) {
                        bier.when = day + ways.get(wayBetween(bier.village, rest.get(1))).days();
                        bier.village = rest.get(1);
                        bier.state = "underway";
                    }
                }
            }
        }
        day++;
    }

    int goBy() {
        arrive();
        int home = bringHome();
        handOn();
        depart();
        return home;
    }

    Model atTheEnd() {
        Model m = copy();
        while (m.day < END) {
            m.goBy();
        }
        return m;
    }

    int late() {
        Model m = atTheEnd();
        int set = 0;
        for (int i = 0; i < m.letters.size(); i++) {
            Letter l = m.letters.get(i);
            set |= l.home < 0 || l.home > l.last ? 1 << i : 0;
        }
        return set;
    }

    int worth() {
        int sum = 0;
        for (Letter l : atTheEnd().letters) {
            sum += l.home >= 0 && l.home <= l.last ? l.worth : 0;
        }
        return sum;
    }

    int stuck() {
        Model m = copy();
        int set = 0;
        for (int i = 0; i < letters.size(); i++) {
            set |= letters.get(i).pile >= 0 ? 1 << i : 0;
        }
        while (m.day < END) {
            m.goBy();
            for (int i = 0; i < letters.size(); i++) {
                if (m.letters.get(i).pile != letters.get(i).pile) {
                    set &= ~(1 << i);
                }
            }
        }
        return set;
    }

    int buried(int bier) {
        if (isBuried(bier)) {
            return day;
        }
        Model m = copy();
        while (m.day < END) {
            m.arrive();
            if (m.isBuried(bier)) {
                return m.day;
            }
            m.depart();
        }
        return -1;
    }

    int[] meets(int a, int b) {
        Model m = copy();
        while (m.day < END) {
            m.arrive();
            if (m.stands(a) && m.stands(b) && m.biers.get(a).village == m.biers.get(b).village) {
                return new int[] {m.day, m.biers.get(a).village};
            }
            m.depart();
        }
        return new int[] {-1, -1};
    }

    private int firstStand(int bier, int village) {
        Model m = copy();
        while (m.day < END) {
            m.arrive();
            if ((m.stands(bier) || m.isBuried(bier)) && m.biers.get(bier).village == village) {
                return m.day;
            }
            m.depart();
        }
        return 10000;
    }

    int[] swap(int a, int b) {
        if (!stands(a) || !stands(b) || biers.get(a).village != biers.get(b).village) {
            return new int[] {-1, -1, -1};
        }
        int[] best = {-1, 0, 0};
        for (int set = 0; set < 1 << letters.size(); set++) {
            int other = 0;
            int worths = 0;
            boolean good = true;
            for (int i = 0; i < letters.size(); i++) {
                Letter l = letters.get(i);
                boolean inBoth = l.bier == a || l.bier == b;
                boolean first = (set >> i & 1) == 1;
                good = good && (inBoth || !first);
                if (inBoth) {
                    other |= first ? 0 : 1 << i;
                    worths += firstStand(first ? a : b, l.goal) <= l.last ? l.worth : 0;
                }
            }
            good = good && Integer.bitCount(set) <= told.get(a).holds() && Integer.bitCount(other) <= told.get(b).holds();
            if (good && worths > best[0]) {
                best = new int[] {worths, set, other};
            }
        }
        return best;
    }

    int cover(int set) {
        for (int count = 0; count <= biers.size(); count++) {
            for (int who = 0; who < 1 << biers.size(); who++) {
                int passed = 0;
                boolean good = Integer.bitCount(who) == count;
                for (int b = 0; b < biers.size(); b++) {
                    if ((who >> b & 1) == 1) {
                        good = good && stands(b);
                        for (int v : rest(biers.get(b).village, told.get(b).home())) {
                            passed |= 1 << v;
                        }
                    }
                }
                if (good && (passed & set) == set) {
                    return who;
                }
            }
        }
        return -1;
    }

    int soon(int from, int to) {
        if (from == to) {
            return day;
        }
        Model m = copy();
        boolean[] piles = new boolean[villages];
        boolean[] carried = new boolean[biers.size()];
        piles[from] = true;
        while (m.day < END) {
            m.arrive();
            for (int round = 0; round < 20; round++) {
                for (int b = 0; b < biers.size(); b++) {
                    int v = m.biers.get(b).village;
                    if (m.stands(b)) {
                        carried[b] |= piles[v];
                        piles[v] |= carried[b];
                    }
                    if (m.isBuried(b) && carried[b]) {
                        piles[v] = true;
                    }
                }
            }
            if (piles[to]) {
                return m.day;
            }
            m.depart();
        }
        return -1;
    }

    int heard(int from) {
        int last = -1;
        for (int v = 0; v < villages; v++) {
            last = Math.max(last, soon(from, v));
        }
        return last;
    }

    int deaf(int from) {
        int set = 0;
        for (int v = 0; v < villages; v++) {
            set |= soon(from, v) < 0 ? 1 << v : 0;
        }
        return set;
    }

    int bars(int a, int b) {
        for (int count = 0; count <= 3; count++) {
            for (int set = 0; set < 1 << ways.size(); set++) {
                boolean good = Integer.bitCount(set) == count;
                for (int w = 0; w < ways.size(); w++) {
                    good = good && !((set >> w & 1) == 1 && closed[w]);
                }
                if (good) {
                    Model m = copy();
                    for (int w = 0; w < ways.size(); w++) {
                        m.closed[w] |= (set >> w & 1) == 1;
                    }
                    if (m.far(a, b) >= 1000) {
                        return set;
                    }
                }
            }
        }
        return -1;
    }

    /** The biers into which a letter alone is handed, and last the day on which it is home (-1). */
    List<Integer> trace(int from, int goal) {
        Model m = copy();
        m.letters = new ArrayList<>();
        m.addLetter(from, goal, 200, 1);
        Letter l = m.letters.get(0);
        List<Integer> route = new ArrayList<>();
        while (m.day < END) {
            int before = l.handed;
            m.goBy();
            if (l.handed > before) {
                route.add(l.bier);
            }
        }
        route.add(l.home);
        return route;
    }

    int fit(int goal, List<Hint> hints, int k) {
        int set = 0;
        for (int v = 0; v < villages; v++) {
            if (v == goal) {
                continue;
            }
            List<Integer> route = trace(v, goal);
            route = route.subList(0, route.size() - 1);
            boolean good = true;
            for (Hint h : hints) {
                boolean known = h.told() <= k && (h.untold()[0] < 0 || h.untold()[0] > k);
                good = good && (!known || route.contains(h.bier()) == h.is());
            }
            set |= good ? 1 << v : 0;
        }
        return set;
    }

    /** The bier to ask, and how many are left at the most. */
    int[] ask(int goal, List<Hint> hints, int k) {
        int fit = fit(goal, hints, k);
        int[] best = {-1, 1000};
        for (int b = 0; b < biers.size() && fit != 0; b++) {
            int yes = 0;
            for (int v = 0; v < villages; v++) {
                if ((fit >> v & 1) == 1) {
                    List<Integer> route = trace(v, goal);
                    yes += route.subList(0, route.size() - 1).contains(b) ? 1 : 0;
                }
            }
            int left = Math.max(yes, Integer.bitCount(fit) - yes);
            if (left < best[1]) {
                best = new int[] {b, left};
            }
        }
        return best[0] < 0 ? new int[] {-1, -1} : best;
    }

    String text(Random random) {
        StringBuilder s = new StringBuilder();
        for (int v = 0; v < villages; v++) {
            s.append("village ").append((char) ('a' + v)).append(";");
        }
        for (Way w : ways) {
            s.append("way ").append(name(w.a())).append(' ').append(name(w.b())).append(' ').append(w.days()).append(";");
        }
        for (int b = 0; b < told.size(); b++) {
            BierTold t = told.get(b);
            s.append("bier ").append(name(b)).append(" from ").append(name(t.from())).append(" to ").append(name(t.home()));
            s.append("\non ").append(t.start());
            if (t.holds() != 2 || random.nextBoolean()) {
                s.append(" holds ").append(t.holds());
            }
            s.append(";");
        }
        for (int i = 0; i < toldLetters.size(); i++) {
            LetterTold l = toldLetters.get(i);
            s.append("letter ").append(name(i)).append(" at ").append(name(l.at())).append(" to ").append(name(l.goal()));
            if (l.last() != 200 || random.nextBoolean()) {
                s.append(" by ").append(l.last());
            }
            if (l.worth() != 1 || random.nextBoolean()) {
                s.append(" worth ").append(l.worth());
            }
            s.append(" ;");
        }
        if (wait != null) {
            s.append("wait ").append(wait.text()).append(";");
        }
        if (winterFirst >= 0) {
            s.append("winter ").append(winterFirst).append(" to ").append(winterLast).append(";");
        }
        return s.toString();
    }

    private static char name(int i) {
        return (char) ('a' + i);
    }
}
