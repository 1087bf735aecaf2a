/** The document's section 4 and promises 31 to 38, sentence by sentence: what was TOLD and when, BOXES; each bound on both sides. */
public final class LoreBoundsTest {
    /* To e: from a by x and z, from b by z, from c by w and z, from d by z; never by y. */
    private static final String LAND = "village a;village b;village c;village d;village e;"
            + "way a b 1;way b d 1;way c b 1;way d e 1;"
            + "bier w from c to b on 0;bier x from a to b on 0;bier y from b to a on 0;bier z from b to e on 5;";

    private static void fit(FuneralPost x, int goal, int k, int want) {
        Check.due("time " + x.about(10) + " fit(" + goal + ", " + k + ")", x.fit(goal, k), want);
    }

    private static void ask(FuneralPost x, int goal, int k, int bier, int left) {
        Check.due("ask(" + goal + ", 0, " + k + ")", x.ask(goal, 0, k), bier);
        Check.due("ask(" + goal + ", 1, " + k + ")", x.ask(goal, 1, k), left);
    }

    /* "HAD, 30 at most"; the untold ones are some of them. */
    private static void thirty() {
        FuneralPost x = Check.told(LAND);
        for (int i = 0; i < 30; i++) {
            Check.due("about(9)", x.about(9), i);
            Check.due("had", x.had(i % 4, i % 2 == 0), i);
        }
        Check.due("about(9)", x.about(9), 30);
        Check.due("a thirty-first", x.had(0, true), -1);
        for (int i = 29; i >= 0; i--) {
            Check.due("untell " + i, x.untell(i), true);
            Check.due("untell " + i + " twice", x.untell(i), false);
        }
        Check.due("untell(30)", x.untell(30), false);
        Check.due("all untold", x.had(0, true), -1);
        Check.due("about(9)", x.about(9), 30);
        fit(x, 4, 0, 15);
        Check.due("land", Check.land(x, LAND), 0);
        Check.due("about(9) of a new land", x.about(9), 0);
        Check.due("untell(0) of a new land", x.untell(0), false);
        Check.due("had of a new land", x.had(3, true), 0);
        Check.due("untell(0)", x.untell(0), true);
    }

    /* "So much later (0 .. 1000): the TIME; NONE .. if it would be above 100,000". */
    private static void time() {
        FuneralPost x = new FuneralPost();
        Check.due("0 at first", x.about(10), 0);
        Check.due("later(0)", x.later(0), 0);
        Check.due("later(1)", x.later(1), 1);
        Check.due("later(999)", x.later(999), 1000);
        Check.due("later(-1)", x.later(-1), -1);
        Check.due("later(1001)", x.later(1001), -1);
        Check.due("about(10)", x.about(10), 1000);
        for (int i = 2; i <= 99; i++) {
            Check.due("later(1000)", x.later(1000), 1000 * i);
        }
        Check.due("later(500)", x.later(500), 99500);
        Check.due("later(501)", x.later(501), -1);
        Check.due("later(1000)", x.later(1000), -1);
        Check.due("about(10)", x.about(10), 99500);
        Check.due("later(500)", x.later(500), 100000);
        Check.due("later(0)", x.later(0), 100000);
        Check.due("later(1)", x.later(1), -1);
        Check.due("about(10)", x.about(10), 100000);
        Check.due("land", Check.land(x, LAND), 0);
        Check.due("the TIME stays", x.about(10), 100000);
        x.had(1, true);
        fit(x, 4, 99999, 15);
        fit(x, 4, 100000, 1);
    }

    /* "As known at k those count that were TOLD at k or before, not UNTOLD at k or before". */
    private static void twoTimes() {
        for (int told = 0; told <= 2; told++) {
            for (int untold = told; untold <= told + 2; untold++) {
                for (int is = 0; is <= 1; is++) {
                    FuneralPost x = Check.told(LAND);
                    x.later(told);
                    Check.due("had", x.had(1, is == 1), 0);
                    int known = is == 1 ? 1 : 14;
                    fit(x, 4, told - 1, 15);
                    fit(x, 4, told, known);
                    fit(x, 4, 1000, known);
                    x.later(untold - told);
                    Check.due("untell", x.untell(0), true);
                    for (int k = -1; k <= untold + 2; k++) {
                        fit(x, 4, k, k >= told && k < untold ? known : 15);
                    }
                    fit(x, 4, Integer.MIN_VALUE, 15);
                    fit(x, 4, Integer.MAX_VALUE, 15);
                    x.later(3);
                    Check.due("untold already", x.untell(0), false);
                    fit(x, 4, untold + 1, 15);
                    ask(x, 4, untold, 0, 3);
                    Check.due("told again", x.had(1, is == 1), 1);
                    fit(x, 4, untold + 2, 15);
                    fit(x, 4, untold + 3, known);
                }
            }
        }
    }

    /* "(not the goal)"; "into each BIER that had it, and into none that had it not, by all that count". */
    private static void fits() {
        FuneralPost x = Check.told(LAND);
        for (int goal = 0; goal < 5; goal++) {
            fit(x, goal, 0, 31 & ~(1 << goal));
        }
        fit(x, 5, 0, -1);
        fit(x, -1, 0, -1);
        x.had(3, true);
        fit(x, 4, 0, 15);
        x.later(1);
        x.had(0, true);
        fit(x, 4, 1, 4);
        x.later(1);
        x.had(1, true);
        fit(x, 4, 2, 0);
        x.untell(1);
        fit(x, 4, 2, 1);
        fit(x, 4, 1, 4);
        x.later(1);
        x.had(2, false);
        fit(x, 4, 3, 1);
        x.had(2, true);
        fit(x, 4, 3, 0);
        /* The same told twice counts till both are untold. */
        FuneralPost y = Check.told(LAND);
        y.had(1, false);
        y.had(1, false);
        fit(y, 4, 0, 14);
        y.later(1);
        y.untell(0);
        fit(y, 4, 1, 14);
        y.untell(1);
        fit(y, 4, 1, 15);
        fit(y, 4, 0, 14);
    }

    /* "(whether it comes HOME or not)"; "by its TRACE": as all is now. */
    private static void fitsAsAllIsNow() {
        FuneralPost x = Check.told(LAND);
        x.had(1, true);
        Check.due("comes home", x.trace(0, 4), 7);
        fit(x, 4, 0, 1);
        x.close(3);
        Check.due("never is", x.trace(0, 4), -1);
        fit(x, 4, 0, 0);
        x.undo();
        x.close(1);
        Check.due("never is", x.trace(0, 4), -1);
        x.undo();
        /* From a to d: x and z; z goes through d. */
        fit(x, 3, 0, 1);
        FuneralPost y = Check.told(LAND.replace("bier z from b to e on 5;", ""));
        Check.due("never is", y.trace(0, 4), -1);
        fit(y, 4, 0, 15);
        y.had(1, true);
        fit(y, 4, 0, 1);
        y.day();
        fit(y, 4, 0, 0);
        y.undo();
        fit(y, 4, 0, 1);
    }

    /* "would leave the fewest of these at the most; of like ones the first". */
    private static void asks() {
        FuneralPost x = Check.told(LAND);
        /* Of four w leaves 1 or 3, x 1 or 3, y 0 or 4, z 4 or 0. */
        ask(x, 4, 0, 0, 3);
        x.had(0, false);
        /* Of a, b, d: w 0 or 3, x 1 or 2. */
        ask(x, 4, 0, 1, 2);
        x.later(1);
        x.had(1, true);
        /* Of a alone each leaves one at the most. */
        ask(x, 4, 1, 0, 1);
        ask(x, 4, 0, 1, 2);
        x.had(2, true);
        fit(x, 4, 1, 0);
        ask(x, 4, 1, -1, -1);
        ask(x, 4, 0, 1, 2);
        ask(x, 4, -1, 0, 3);
        ask(x, 5, 0, -1, -1);
        ask(x, -1, 0, -1, -1);
        /* Halves. */
        FuneralPost y = Check.told("village a;village b;village c;village d;village e;way a b 1;way c b 1;way b e 1;way d e 1;"
                + "bier v from d to a on 50;bier w from a to b on 0;bier x from b to e on 3;bier z from d to e on 0;");
        fit(y, 4, 0, 15);
        /* w 1 or 3, x 2 or 2 (a, b; c has none), z 1 or 3. */
        ask(y, 4, 0, 2, 2);
        /* Seven villages, none told apart: seven, but the goal. */
        FuneralPost z = Check.told("village a;village b;village c;village d;village e;village f;village g;bier x from a to b on 60;");
        fit(z, 6, 0, 63);
        ask(z, 6, 0, 0, 6);
        /* No BIERS, no VILLAGES, one village. */
        FuneralPost none = Check.told("village a;village b;way a b 1;");
        fit(none, 0, 0, 2);
        ask(none, 0, 0, -1, -1);
        FuneralPost one = Check.told("village a;");
        fit(one, 0, 0, 0);
        ask(one, 0, 0, -1, -1);
        FuneralPost empty = new FuneralPost();
        fit(empty, 0, 0, -1);
        ask(empty, 0, 0, -1, -1);
    }

    private static final String MOVING = "village a;village b;village c;way a b 2;way b c 2;"
            + "bier x from a to c on 0 holds 1;bier y from b to c on 3;letter p at a to b;letter q at a to c;wait 1;";

    /* "BIERS, LETTERS, WAYS, the DAY are kept in a BOX 0 .. 2"; "All is as it was kept (no ACTS are kept then)". */
    private static void boxes() {
        for (int box = 0; box < 3; box++) {
            FuneralPost x = Check.told(MOVING);
            x.day();
            x.close(1);
            x.post(2, 0);
            x.undo();
            String kept = Whole.state(x);
            Check.due("image", x.image(box), 1);
            Check.due("acts stay behind an image", x.about(7), 2);
            Check.due("redo stays behind an image", x.about(8), 1);
            x.redo();
            x.close(0);
            x.take(0);
            Check.days(x, 4);
            x.had(0, true);
            x.later(4);
            x.trace(0, 1);
            Check.due("changed", Whole.state(x).equals(kept), false);
            for (int other = 0; other < 3; other++) {
                if (other != box) {
                    int acts = x.about(7);
                    Check.due("back to an empty box", x.back(other), -1);
                    Check.due("does nothing", x.about(7), acts);
                }
            }
            Check.due("back", x.back(box), 1);
            Check.due("as it was kept", Whole.state(x).equals(kept), true);
            Check.due("about(7)", x.about(7), 0);
            Check.due("about(8)", x.about(8), 0);
            Check.due("undo", x.undo(), false);
            Check.due("redo", x.redo(), false);
            Check.due("the HAD stays", x.about(9), 1);
            Check.due("the TIME stays", x.about(10), 4);
            /* Gone on from there, and back once more. */
            x.day();
            Check.due("about(7)", x.about(7), 1);
            Check.due("undo", x.undo(), true);
            Check.due("as it was kept, by undo", Whole.state(x).equals(kept), true);
            x.close(0);
            Check.due("back again", x.back(box), 1);
            Check.due("as it was kept, again", Whole.state(x).equals(kept), true);
        }
    }

    private static void boxesByThemselves() {
        FuneralPost x = Check.told(MOVING);
        for (int box = 0; box < 3; box++) {
            Check.due("nothing was kept", x.back(box), -1);
        }
        for (int box = 0; box < 3; box++) {
            Check.due("image", x.image(box), 2 * box);
            Check.days(x, 2);
        }
        for (int box = 2; box >= 0; box--) {
            Check.due("back", x.back(box), 2 * box);
            Check.due("about(4)", x.about(4), 2 * box);
        }
        x.back(1);
        Check.due("kept anew", x.image(0), 2);
        x.day();
        Check.due("back", x.back(0), 2);
        Check.due("back to another one", x.back(2), 4);
        /* A land that is at fault leaves them, a good one empties them. */
        Check.due("a fault", Check.land(x, "village"), -1);
        Check.due("back", x.back(0), 2);
        Check.due("land", Check.land(x, MOVING), 2);
        for (int box = 0; box < 3; box++) {
            Check.due("nothing was kept", x.back(box), -1);
        }
        /* At the end of all days. */
        FuneralPost y = Check.told(MOVING);
        Check.days(y, 300);
        Check.due("image", y.image(1), 300);
        Check.due("back", y.back(1), 300);
        Check.due("day", y.day(), -1);
        Check.due("post", y.post(0, 1), 2);
        Check.due("close", y.close(0), 1);
    }

    /* "0: LETTERS .. 13: how many lie there. NONE for another what". */
    private static void about() {
        FuneralPost x = Check.told(MOVING);
        int[] first = {2, 3, 2, 2, 0, 0, 0, 0, 0, 0, 0, 0, 1, 0};
        for (int what = 0; what < first.length; what++) {
            Check.due("at first about(" + what + ")", x.about(what), first[what]);
        }
        Check.days(x, 9);
        x.post(0, 2);
        x.close(1);
        x.close(0);
        x.undo();
        x.had(0, true);
        x.later(7);
        x.feed(0, 0, 0, 0, 0);
        x.end(3);
        int[] then = {3, 3, 2, 2, 9, 2, 1, 11, 1, 1, 7, 3, 1, 0};
        for (int what = 0; what < then.length; what++) {
            Check.due("then about(" + what + ")", x.about(what), then[what]);
        }
        for (int what : new int[] {-1, 14, Integer.MIN_VALUE, Integer.MAX_VALUE}) {
            Check.due("about(" + what + ")", x.about(what), -1);
        }
    }

    public static void main(String[] args) {
        thirty();
        time();
        twoTimes();
        fits();
        fitsAsAllIsNow();
        asks();
        boxes();
        boxesByThemselves();
        about();
        Check.finish();
    }
}
