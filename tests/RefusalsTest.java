/** Every call that is refused answers as its promise says, and does nothing; so does every question. */
public final class RefusalsTest {
    private static final String LAND = "village a;village b;village c;village d;village e;"
            + "way a b 2;way b c 2;way c d 1;way a d 9;way a e 9;way e d 9;"
            + "bier x from a to c on 0 holds 1;bier y from b to d on 0 holds 2;bier z from d to a on 40;bier w from c to d on 0;"
            + "letter p at a to c worth 3;letter q at b to d;letter r at b to d by 3;letter s at c to a worth 4;letter t at e to a;wait 3;";
    private static final int MIN = Integer.MIN_VALUE;
    private static final int MAX = Integer.MAX_VALUE;
    /* Five villages, six ways, four biers, seven letters, 20 bytes: the first that can't be, and what may wrap. */
    private static final int[] NO_VILLAGE = {-1, -2, 5, 6, 7, 8, 31, 32, 33, 64, MIN, MIN + 1, MAX};
    private static final int[] NO_BIER = {-1, -2, 4, 5, 6, 7, 31, 32, 33, 64, MIN, MIN + 1, MAX};
    private static final int[] NO_WAY = {-1, -2, 6, 7, 11, 12, 13, 31, 32, 33, 64, MIN, MIN + 1, MAX};
    private static final int[] NO_LETTER = {-1, -2, 7, 8, 9, 10, 11, 31, 32, 33, 64, MIN, MIN + 1, MAX};
    private static final int[] NO_BOX = {-1, -2, 3, 4, 31, 32, 33, MIN, MAX};

    private interface Call {
        long on(FuneralPost x);
    }

    private interface Start {
        FuneralPost make();
    }

    /** On day 2, with letters in piles and biers, a way closed, acts, two of them undone, a box, what was told, what lies. */
    private static FuneralPost rich() {
        FuneralPost x = Check.told(LAND);
        Check.land(x, "village a;village a;");
        x.image(0);
        Check.days(x, 2);
        x.had(0, true);
        x.later(5);
        x.had(1, false);
        x.untell(0);
        x.post(1, 0);
        x.post(0, 2);
        x.close(3);
        x.take(1);
        x.hand(1, 1);
        x.post(2, 0);
        x.close(0);
        x.undo();
        x.undo();
        x.image(2);
        x.trace(0, 2);
        x.feed(0x77616974, 0x20313b20, 0x20202020, 0x20202020, 0x20202020);
        return x;
    }

    private static void refused(Start start, String name, long due, Call call) {
        FuneralPost x = start.make();
        Check.due(name, call.on(x), due);
        Check.due(name + " did nothing", Whole.of(x).equals(Whole.of(start.make())), true);
    }

    private static void refused(String name, long due, Call call) {
        refused(RefusalsTest::rich, name, due, call);
    }

    private static void theStateIsRich() {
        FuneralPost x = rich();
        Check.due("the day", x.about(4), 2);
        Check.due("in x", x.letter(0, 1), 0);
        Check.due("in y", x.letter(1, 1), 1);
        Check.due("in y, too", x.letter(2, 1), 1);
        Check.due("in c", x.letter(3, 0), 2);
        Check.due("in b", x.letter(5, 0), 1);
        Check.due("in a", x.letter(6, 0), 0);
        Check.due("x stands", x.bier(0, 0), 1);
        Check.due("y stands", x.bier(1, 0), 1);
        Check.due("z is not there yet", x.bier(2, 0), 0);
        Check.due("w stands", x.bier(3, 0), 1);
        Check.due("can be undone", x.about(7), 7);
        Check.due("can be done again", x.about(8), 2);
        Check.due("closed", x.about(5), 8);
        Check.due("lie there", x.about(13), 1);
        Check.due("on the tape", x.about(11), 20);
        Check.due("its fault", x.fault(0), 3);
    }

    private static void tape() {
        for (int n : new int[] {-1, -2, 21, 22, 40, 1600, 1601, MIN, MAX}) {
            refused("end(" + n + ")", -1, x -> x.end(n));
        }
        for (int what : new int[] {-1, 2, 3, MIN, MAX}) {
            refused("fault(" + what + ")", -1, x -> x.fault(what));
        }
        for (int bytes : new int[] {1581, 1582, 1599, 1600}) {
            Start full = () -> {
                FuneralPost x = rich();
                for (int i = 0; i < 79; i++) {
                    x.feed(i, i, i, i, i);
                }
                x.end(bytes);
                return x;
            };
            refused(full, "feed() behind " + bytes, -1, x -> x.feed(1, 2, 3, 4, 5));
        }
    }

    private static void whatIsThere() {
        for (int b : NO_BIER) {
            for (int what = -1; what <= 6; what++) {
                int w = what;
                refused("bier(" + b + ", " + what + ")", -2, x -> x.bier(b, w));
            }
        }
        for (int i : NO_LETTER) {
            for (int what = -1; what <= 7; what++) {
                int w = what;
                refused("letter(" + i + ", " + what + ")", -2, x -> x.letter(i, w));
            }
        }
        for (int v : NO_VILLAGE) {
            for (int what = -1; what <= 3; what++) {
                int w = what;
                refused("village(" + v + ", " + what + ")", -1, x -> x.village(v, w));
            }
            refused("far(0, " + v + ")", -1, x -> x.far(0, v));
            refused("far(" + v + ", 3)", -1, x -> x.far(v, 3));
            refused("far(" + v + ", " + v + ")", -1, x -> x.far(v, v));
        }
        for (int what : new int[] {-1, -2, 6, 7, 32, MIN, MAX}) {
            refused("bier(0, " + what + ")", -2, x -> x.bier(0, what));
            refused("bier(3, " + what + ")", -2, x -> x.bier(3, what));
        }
        for (int what : new int[] {-1, -2, 7, 8, 32, MIN, MAX}) {
            refused("letter(0, " + what + ")", -2, x -> x.letter(0, what));
            refused("letter(6, " + what + ")", -2, x -> x.letter(6, what));
        }
        for (int what : new int[] {-1, -2, 3, 4, 32, MIN, MAX}) {
            refused("village(0, " + what + ")", -1, x -> x.village(0, what));
            refused("village(4, " + what + ")", -1, x -> x.village(4, what));
        }
        for (int what : new int[] {-1, -2, 14, 15, 32, MIN, MAX}) {
            refused("about(" + what + ")", -1, x -> x.about(what));
        }
        for (int i : new int[] {-1, -2, 1, 2, 299, 300, 301, MIN, MAX}) {
            refused("lies(" + i + ")", -1, x -> x.lies(i));
        }
    }

    private static void acts() {
        for (int v : NO_VILLAGE) {
            refused("post(" + v + ", 0)", -1, x -> x.post(v, 0));
            refused("post(0, " + v + ")", -1, x -> x.post(0, v));
            refused("post(" + v + ", " + v + ")", -1, x -> x.post(v, v));
        }
        for (int v = 0; v < 5; v++) {
            int both = v;
            refused("post(" + v + ", " + v + ")", -1, x -> x.post(both, both));
        }
        for (int i : NO_LETTER) {
            refused("hand(" + i + ", 0)", 0, x -> x.hand(i, 0) ? 1 : 0);
            refused("hand(" + i + ", 9)", 0, x -> x.hand(i, 9) ? 1 : 0);
            refused("take(" + i + ")", -1, x -> x.take(i));
        }
        for (int b : NO_BIER) {
            refused("hand(5, " + b + ")", 0, x -> x.hand(5, b) ? 1 : 0);
        }
        for (int w : NO_WAY) {
            refused("close(" + w + ")", -1, x -> x.close(w));
        }
        refused("hand(): in a bier", 0, x -> x.hand(0, 0) ? 1 : 0);
        refused("hand(): in a bier that has room", 0, x -> x.hand(3, 1) ? 1 : 0);
        refused("hand(): no room for one more", 0, x -> x.hand(6, 0) ? 1 : 0);
        refused("hand(): no room for a third", 0, x -> x.hand(5, 1) ? 1 : 0);
        refused("hand(): stands elsewhere", 0, x -> x.hand(5, 3) ? 1 : 0);
        refused("hand(): not started", 0, x -> x.hand(5, 2) ? 1 : 0);
        refused("take(): in a pile", -1, x -> x.take(3));
        refused("take(): in another pile", -1, x -> x.take(5));
        refused("take() of one taken", -1, x -> x.take(6));
    }

    private static FuneralPost later(int days) {
        FuneralPost x = rich();
        Check.days(x, days);
        return x;
    }

    private static void actsOnOthersThatStandNowhere() {
        /* Behind day 3 x and y are on their ways, with p, and with q and r; behind day 4 w is buried in d. */
        Start underway = () -> later(2);
        FuneralPost x = underway.make();
        Check.due("x is on a way", x.bier(0, 0), 2);
        Check.due("w is buried", later(3).bier(3, 0), 3);
        refused(underway, "take(): in a bier on a way", -1, y -> y.take(0));
        refused(underway, "take(): in another one on a way", -1, y -> y.take(2));
        refused(underway, "hand(): a bier on a way from there", 0, y -> y.hand(6, 0) ? 1 : 0);
        refused(underway, "hand(): a bier on a way with room", 0, y -> y.hand(5, 0) ? 1 : 0);
        Start buried = () -> {
            FuneralPost y = later(3);
            y.post(3, 0);
            return y;
        };
        refused(buried, "hand(): a bier buried there", 0, y -> y.hand(7, 3) ? 1 : 0);
        /* p comes home on day 8. */
        Start home = () -> later(10);
        Check.due("p is home", home.make().letter(0, 2) >= 0, true);
        refused(home, "take(): home", -1, y -> y.take(0));
        refused(home, "hand(): home", 0, y -> y.hand(0, 0) ? 1 : 0);
    }

    private static void actsOnFullOnes() {
        Start ten = () -> {
            FuneralPost x = rich();
            for (int i = 7; i < 10; i++) {
                Check.due("post", x.post(0, 1), i);
            }
            return x;
        };
        refused(ten, "an eleventh letter", -1, x -> x.post(0, 1));
        refused(ten, "an eleventh letter elsewhere", -1, x -> x.post(3, 0));
        Start none = () -> Check.told(LAND);
        refused(none, "undo() of none", 0, x -> x.undo() ? 1 : 0);
        refused(none, "redo() of none", 0, x -> x.redo() ? 1 : 0);
        Start allUndone = () -> {
            FuneralPost x = rich();
            for (int i = 0; i < 7; i++) {
                Check.due("undo", x.undo(), true);
            }
            return x;
        };
        refused(allUndone, "undo() when all is undone", 0, x -> x.undo() ? 1 : 0);
        Start allDone = () -> {
            FuneralPost x = rich();
            Check.due("redo", x.redo(), true);
            Check.due("redo", x.redo(), true);
            return x;
        };
        refused(allDone, "redo() when all is done", 0, x -> x.redo() ? 1 : 0);
    }

    /* "NONE, doing nothing, behind DAY 299": there are calls left for some of what it could have done alone. */
    private static void noDayBehind299() {
        FuneralPost x = Check.told("village a;village b;way a b 1;bier x from a to b on 0;letter p at b to a;");
        for (int day = 0; day < 300; day++) {
            Check.due("day " + day, x.day(), 0);
        }
        Check.due("behind day 299", x.day(), -1);
        Check.due("behind day 299", x.day(), -1);
        Check.due("about(4)", x.about(4), 300);
        Check.due("about(7)", x.about(7), 40);
        Check.due("about(8)", x.about(8), 0);
        Check.due("undo", x.undo(), true);
        Check.due("about(4)", x.about(4), 299);
        Check.due("day 299", x.day(), 0);
        Check.due("undo", x.undo(), true);
        Check.due("redo", x.redo(), true);
        Check.due("behind day 299", x.day(), -1);
        FuneralPost same = Check.told("village a;village b;way a b 1;bier x from a to b on 0;letter p at b to a;");
        Check.days(same, 300);
        Check.due("all as it was", Whole.state(x).equals(Whole.state(same)), true);
    }

    private static void questions() {
        for (int i : NO_LETTER) {
            refused("comes(" + i + ")", -1, x -> x.comes(i));
        }
        for (int b : NO_BIER) {
            refused("buried(" + b + ")", -1, x -> x.buried(b));
            for (int what = -1; what <= 3; what++) {
                int w = what;
                refused("meets(0, " + b + ", " + what + ")", -1, x -> x.meets(0, b, w));
                refused("meets(" + b + ", 1, " + what + ")", -1, x -> x.meets(b, 1, w));
                refused("swap(0, " + b + ", " + what + ")", -1, x -> x.swap(0, b, w));
                refused("swap(" + b + ", 1, " + what + ")", -1, x -> x.swap(b, 1, w));
                refused("swap(both " + b + ", " + what + ")", -1, x -> x.swap(b, b, w));
            }
        }
        for (int b = 0; b < 4; b++) {
            for (int what = -1; what <= 3; what++) {
                int both = b;
                int w = what;
                refused("meets(both " + b + ", " + what + ")", -1, x -> x.meets(both, both, w));
                refused("swap(both " + b + ", " + what + ")", -1, x -> x.swap(both, both, w));
            }
        }
        for (int set : new int[] {-1, -32, 32, 33, 63, 64, 127, 128, 1 << 30, MIN, MIN + 1, MAX}) {
            for (int what = -1; what <= 2; what++) {
                int w = what;
                refused("cover(" + set + ", " + what + ")", -1, x -> x.cover(set, w));
            }
        }
        for (int v : NO_VILLAGE) {
            refused("soon(" + v + ", 0)", -1, x -> x.soon(v, 0));
            refused("soon(0, " + v + ")", -1, x -> x.soon(0, v));
            refused("soon(" + v + ", " + v + ")", -1, x -> x.soon(v, v));
            refused("heard(" + v + ")", -1, x -> x.heard(v));
            refused("deaf(" + v + ")", -1, x -> x.deaf(v));
            for (int what = -1; what <= 2; what++) {
                int w = what;
                refused("bars(" + v + ", 0, " + what + ")", -1, x -> x.bars(v, 0, w));
                refused("bars(0, " + v + ", " + what + ")", -1, x -> x.bars(0, v, w));
                refused("bars(both " + v + ", " + what + ")", -1, x -> x.bars(v, v, w));
            }
        }
        for (int v = 0; v < 5; v++) {
            for (int what = -1; what <= 2; what++) {
                int both = v;
                int w = what;
                refused("bars(both " + v + ", " + what + ")", -1, x -> x.bars(both, both, w));
            }
        }
    }

    private static void questionsOfAnotherWhat() {
        Start together = () -> {
            FuneralPost x = Check.told("village a;village b;village c;way a b 1;way b c 1;bier x from a to b on 0;"
                    + "bier y from a to c on 0;letter p at a to c;wait 3;");
            x.day();
            return x;
        };
        FuneralPost two = together.make();
        Check.due("they meet", two.meets(0, 1, 0), 1);
        Check.due("they swap", two.swap(0, 1, 0), 1);
        for (int what : new int[] {-1, -2, 2, 3, 32, MIN, MAX}) {
            refused(together, "meets(0, 1, " + what + ")", -1, x -> x.meets(0, 1, what));
            refused(together, "swap(0, 1, " + what + ")", what == 2 ? 1 : -1, x -> x.swap(0, 1, what));
            refused(together, "cover(1, " + what + ")", -1, x -> x.cover(1, what));
            refused(together, "cover(0, " + what + ")", -1, x -> x.cover(0, what));
            refused(together, "bars(0, 1, " + what + ")", -1, x -> x.bars(0, 1, what));
            refused(together, "ask(2, " + what + ", 0)", -1, x -> x.ask(2, what, 0));
        }
    }

    private static void lore() {
        for (int b : NO_BIER) {
            refused("had(" + b + ", true)", -1, x -> x.had(b, true));
            refused("had(" + b + ", false)", -1, x -> x.had(b, false));
        }
        for (int had : new int[] {-1, -2, 2, 3, 29, 30, 31, 32, MIN, MAX}) {
            refused("untell(" + had + ")", 0, x -> x.untell(had) ? 1 : 0);
        }
        refused("untell(0), untold already", 0, x -> x.untell(0) ? 1 : 0);
        for (int by : new int[] {-1, -2, 1001, 1002, 100000, MIN, MIN + 1, MAX, MAX - 5}) {
            refused("later(" + by + ")", -1, x -> x.later(by));
        }
        for (int v : NO_VILLAGE) {
            for (int k : new int[] {MIN, -1, 0, 5, MAX}) {
                refused("fit(" + v + ", " + k + ")", -1, x -> x.fit(v, k));
                for (int what = -1; what <= 2; what++) {
                    int w = what;
                    refused("ask(" + v + ", " + what + ", " + k + ")", -1, x -> x.ask(v, w, k));
                }
            }
        }
        Start thirty = () -> {
            FuneralPost x = rich();
            for (int i = 2; i < 30; i++) {
                Check.due("had", x.had(i % 4, i % 3 == 0), i);
            }
            return x;
        };
        refused(thirty, "a thirty-first had", -1, x -> x.had(0, true));
        refused(thirty, "untell(30)", 0, x -> x.untell(30) ? 1 : 0);
        refused(thirty, "later(0) goes on by none", 5, x -> x.later(0));
        Start late = () -> {
            FuneralPost x = rich();
            for (int i = 0; i < 99; i++) {
                x.later(1000);
            }
            Check.due("the time", x.later(994), 99999);
            return x;
        };
        refused(late, "later(2) to 100001", -1, x -> x.later(2));
        refused(late, "later(1000)", -1, x -> x.later(1000));
        refused(late, "later(-1)", -1, x -> x.later(-1));
    }

    private static void boxes() {
        for (int box : NO_BOX) {
            refused("image(" + box + ")", -1, x -> x.image(box));
            refused("back(" + box + ")", -1, x -> x.back(box));
        }
        refused("back(1), nothing was kept", -1, x -> x.back(1));
        for (int box = 0; box < 3; box++) {
            int b = box;
            refused(() -> Check.told(LAND), "back(" + box + ") of a new land", -1, x -> x.back(b));
        }
    }

    /* "(By what is now; nothing is done.)" */
    private static void everyQuestionDoesNothing() {
        FuneralPost x = rich();
        for (int i = 0; i < 7; i++) {
            x.comes(i);
        }
        x.late();
        x.worth();
        x.stuck();
        for (int b = 0; b < 4; b++) {
            x.buried(b);
            for (int c = 0; c < 4; c++) {
                x.meets(b, c, 0);
                x.swap(b, c, 0);
            }
        }
        for (int set = 0; set < 32; set += 5) {
            x.cover(set, set & 1);
        }
        for (int v = 0; v < 5; v++) {
            x.heard(v);
            x.deaf(v);
            x.fit(v, v);
            x.ask(v, 0, 5);
            x.ask(v, 1, 5);
            for (int u = 0; u < 5; u++) {
                x.far(v, u);
                x.soon(v, u);
                x.bars(v, u, u & 1);
            }
        }
        for (int what = 0; what < 14; what++) {
            x.about(what);
        }
        for (int what = 0; what < 2; what++) {
            x.fault(what);
            x.lies(what);
        }
        Check.due("questions do nothing", Whole.of(x).equals(Whole.of(rich())), true);
    }

    /* A trace lets lie what it found, and does nothing else; "behind NONE: nothing". */
    private static void traceLetsLieAlone() {
        for (int v : NO_VILLAGE) {
            nothingLies("trace(" + v + ", 0)", x -> x.trace(v, 0));
            nothingLies("trace(0, " + v + ")", x -> x.trace(0, v));
        }
        nothingLies("trace(1, 1)", x -> x.trace(1, 1));
        nothingLies("trace(0, 1), which never is", x -> {
            x.close(0);
            long day = x.trace(0, 1);
            x.undo();
            return day;
        }, false);
    }

    private static void nothingLies(String name, Call call) {
        nothingLies(name, call, true);
    }

    private static void nothingLies(String name, Call call, boolean actsStay) {
        FuneralPost x = rich();
        FuneralPost same = rich();
        Check.due("one lies there", x.about(13), 1);
        Check.due(name, call.on(x), -1);
        Check.due(name + ": about(13)", x.about(13), 0);
        Check.due(name + ": lies(0)", x.lies(0), -1);
        Check.due(name + ": the rest", (Whole.tape(x) + Whole.state(x) + Whole.lore(x))
                .equals(Whole.tape(same) + Whole.state(same) + Whole.lore(same)), true);
        if (actsStay) {
            Check.due(name + ": acts", (Whole.acts(x) + Whole.boxes(x)).equals(Whole.acts(same) + Whole.boxes(same)), true);
        }
    }

    /* "a FAULT (the TAPE is empty then, too; all else stays)". */
    private static void faultyLandsDoNothing() {
        String[] texts = {"$", "village", "village x;village x;", "village x;village y;way x y 10;", "way x y 1;",
            Texts.FULL + "village h;", Texts.FULL + "$", LAND + "wait 1;"};
        for (String text : texts) {
            FuneralPost x = rich();
            x.end(0);
            Check.due("land of " + text, Check.land(x, text), -1);
            Check.due("about(11) behind " + text, x.about(11), 0);
            FuneralPost same = rich();
            String due = Whole.state(same) + Whole.lore(same) + Whole.lying(same) + Whole.acts(same) + Whole.boxes(same);
            String got = Whole.state(x) + Whole.lore(x) + Whole.lying(x) + Whole.acts(x) + Whole.boxes(x);
            Check.due("all else stays behind " + text, got.equals(due), true);
        }
    }

    /* "(all as told, DAY 0, all WAYS open, no ACTS, nothing is TOLD, nothing lies there, BOXES are empty; the TIME stays)". */
    private static void goodLandsBeginAnew() {
        String[] texts = {"", "village a;", LAND, Texts.FULL};
        for (String text : texts) {
            FuneralPost x = rich();
            x.image(1);
            x.end(0);
            Check.due("land of " + text.length(), Check.land(x, text) >= 0, true);
            FuneralPost fresh = Check.told(text);
            fresh.later(5);
            Check.due("as if new, of " + text.length(), Whole.of(x).equals(Whole.of(fresh)), true);
        }
    }

    public static void main(String[] args) {
        theStateIsRich();
        tape();
        whatIsThere();
        acts();
        actsOnOthersThatStandNowhere();
        actsOnFullOnes();
        noDayBehind299();
        questions();
        questionsOfAnotherWhat();
        lore();
        boxes();
        everyQuestionDoesNothing();
        traceLetsLieAlone();
        faultyLandsDoNothing();
        goodLandsBeginAnew();
        Check.finish();
    }
}
