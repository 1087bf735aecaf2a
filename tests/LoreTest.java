/** Promises 31 to 35: what is told of a lost letter, when, what fits it, whom to ask next. */
public final class LoreTest {
    /* To e: from a by x and z, from b by z, from c by w and z, from d by z. */
    private static final String LAND = "village a;village b;village c;village d;village e;"
            + "way a b 1;way b d 1;way c b 1;way d e 1;"
            + "bier w from c to b on 0;bier x from a to b on 0;bier y from b to a on 0;bier z from b to e on 5;";

    private static void fit(FuneralPost x, int goal, int k, int want) {
        Check.due("fit(" + goal + ", " + k + ")", x.fit(goal, k), want);
    }

    private static void ask(FuneralPost x, int goal, int k, int bier, int left) {
        Check.due("ask(" + goal + ", 0, " + k + ")", x.ask(goal, 0, k), bier);
        Check.due("ask(" + goal + ", 1, " + k + ")", x.ask(goal, 1, k), left);
    }

    private static void hads() {
        FuneralPost x = Check.told(LAND);
        for (int wrong : new int[] {-1, 4, 6, 32, Integer.MIN_VALUE, Integer.MAX_VALUE}) {
            Check.due("had(" + wrong + ")", x.had(wrong, true), -1);
        }
        Check.due("untell(0)", x.untell(0), false);
        for (int i = 0; i < 30; i++) {
            Check.due("had", x.had(i % 4, i % 2 == 0), i);
        }
        Check.due("a thirty-first", x.had(0, true), -1);
        Check.due("about(9)", x.about(9), 30);
        Check.due("untell(29)", x.untell(29), true);
        Check.due("untell(29)", x.untell(29), false);
        Check.due("untold ones count for the thirty", x.had(0, true), -1);
        Check.due("about(9)", x.about(9), 30);
        for (int wrong : new int[] {-1, 30, 31, Integer.MIN_VALUE, Integer.MAX_VALUE}) {
            Check.due("untell(" + wrong + ")", x.untell(wrong), false);
        }
    }

    private static void later() {
        FuneralPost x = new FuneralPost();
        Check.due("later(0)", x.later(0), 0);
        Check.due("later(-1)", x.later(-1), -1);
        Check.due("later(1001)", x.later(1001), -1);
        Check.due("later(max)", x.later(Integer.MAX_VALUE), -1);
        Check.due("later(min)", x.later(Integer.MIN_VALUE), -1);
        Check.due("about(10)", x.about(10), 0);
        for (int i = 1; i < 100; i++) {
            Check.due("later(1000)", x.later(1000), 1000 * i);
        }
        Check.due("later(999)", x.later(999), 99999);
        Check.due("later(2)", x.later(2), -1);
        Check.due("later(1)", x.later(1), 100000);
        Check.due("later(1)", x.later(1), -1);
        Check.due("later(0)", x.later(0), 100000);
        Check.due("land", Check.land(x, LAND), 0);
        Check.due("the time stays", x.about(10), 100000);
        Check.due("had", x.had(0, true), 0);
        fit(x, 4, 99999, 15);
        fit(x, 4, 100000, 4);
    }

    private static void fits() {
        FuneralPost x = Check.told(LAND);
        for (int wrong : new int[] {-1, 5, 7, 32, Integer.MIN_VALUE, Integer.MAX_VALUE}) {
            fit(x, wrong, 0, -1);
            ask(x, wrong, 0, -1, -1);
        }
        fit(x, 4, 0, 15);
        fit(x, 4, -1, 15);
        fit(x, 0, 0, 30);
        Check.due("had(1)", x.had(1, true), 0);
        fit(x, 4, 0, 1);
        fit(x, 4, -1, 15);
        fit(x, 4, Integer.MAX_VALUE, 1);
        fit(x, 4, Integer.MIN_VALUE, 15);
        x.later(2);
        x.untell(0);
        x.had(3, true);
        fit(x, 4, 1, 1);
        fit(x, 4, 2, 7 + 8);
        x.later(1);
        x.had(1, false);
        fit(x, 4, 2, 15);
        fit(x, 4, 3, 14);
        x.had(0, false);
        fit(x, 4, 3, 10);
        fit(x, 4, 1, 1);
        /* None is handed on to c. */
        fit(x, 2, 3, 0);
        Check.due("had it, and had it not", x.had(3, false), 4);
        fit(x, 4, 3, 0);
        ask(x, 4, 3, -1, -1);
        x.untell(4);
        fit(x, 4, 3, 10);
    }

    private static void fitsWithoutComingHome() {
        FuneralPost x = Check.told("village a;village b;village c;village d;way a b 1;way b c 1;way c d 1;"
                + "bier x from a to b on 0;bier y from c to a on 0;");
        Check.due("trace", x.trace(0, 3), -1);
        fit(x, 3, 0, 7);
        x.had(0, true);
        fit(x, 3, 0, 1);
        x.undo();
        x.day();
        fit(x, 3, 0, 0);
        /* As all is now. */
        x.undo();
        fit(x, 3, 0, 1);
    }

    private static void asks() {
        FuneralPost x = Check.told(LAND);
        /* z had it from all, w and x each from one: all leave three at the most but y and z, who leave four. */
        ask(x, 4, 0, 0, 3);
        x.had(0, false);
        ask(x, 4, 0, 1, 2);
        x.later(1);
        x.had(1, false);
        /* b and d are left, which none tells apart. */
        ask(x, 4, 1, 0, 2);
        ask(x, 4, 0, 1, 2);
        for (int wrong : new int[] {-1, 2, 3, Integer.MIN_VALUE, Integer.MAX_VALUE}) {
            Check.due("ask(4, " + wrong + ", 0)", x.ask(4, wrong, 0), -1);
        }
        FuneralPost y = Check.told("village a;village b;way a b 1;");
        fit(y, 0, 0, 2);
        ask(y, 0, 0, -1, -1);
    }

    public static void main(String[] args) {
        hads();
        later();
        fits();
        fitsWithoutComingHome();
        asks();
        Check.finish();
    }
}
