/** Promises 6 to 10 and 17 to 22: what is where, how a day goes by, what comes of it. */
public final class DaysTest {
    private static final String LINE = "village a;village b;village c;village d;village e;"
            + "way a b 2;way b c 1;way c d 3;way a d 9;";
    private static final String LAND = LINE + "bier x from a to d on 1 holds 1;bier y from c to a on 0;"
            + "letter p at a to c by 20 worth 3;letter q at a to d;letter r at c to b by 2;letter s at e to a;wait 1;";

    private static void bier(FuneralPost x, int bier, int... want) {
        for (int what = 0; what < want.length; what++) {
            Check.due("day " + x.about(4) + " bier(" + bier + ", " + what + ")", x.bier(bier, what), want[what]);
        }
    }

    private static void letter(FuneralPost x, int letter, int... want) {
        for (int what = 0; what < want.length; what++) {
            Check.due("day " + x.about(4) + " letter(" + letter + ", " + what + ")", x.letter(letter, what), want[what]);
        }
    }

    private static void wrongNumbers() {
        FuneralPost x = Check.told(LAND);
        for (int wrong : new int[] {-1, 2, 6, 31, 32, Integer.MIN_VALUE, Integer.MAX_VALUE}) {
            Check.due("bier(" + wrong + ", 0)", x.bier(wrong, 0), -2);
            Check.due("buried(" + wrong + ")", x.buried(wrong), -1);
            Check.due("meets(" + wrong + ", 0, 0)", x.meets(wrong, 0, 0), -1);
            Check.due("meets(0, " + wrong + ", 0)", x.meets(0, wrong, 0), -1);
        }
        for (int wrong : new int[] {-1, 4, 8, 10, Integer.MIN_VALUE, Integer.MAX_VALUE}) {
            Check.due("letter(" + wrong + ", 0)", x.letter(wrong, 0), -2);
            Check.due("comes(" + wrong + ")", x.comes(wrong), -1);
        }
        for (int wrong : new int[] {-1, 5, 7, Integer.MIN_VALUE, Integer.MAX_VALUE}) {
            Check.due("village(" + wrong + ", 0)", x.village(wrong, 0), -1);
            Check.due("far(" + wrong + ", 0)", x.far(wrong, 0), -1);
            Check.due("far(0, " + wrong + ")", x.far(0, wrong), -1);
        }
        Check.due("bier(0, 6)", x.bier(0, 6), -2);
        Check.due("bier(0, -1)", x.bier(0, -1), -2);
        Check.due("letter(0, 7)", x.letter(0, 7), -2);
        Check.due("letter(0, -1)", x.letter(0, -1), -2);
        Check.due("village(0, 3)", x.village(0, 3), -1);
        Check.due("village(0, -1)", x.village(0, -1), -1);
    }

    private static void far() {
        FuneralPost x = Check.told(LAND);
        int[][] due = {{0, 2, 3, 6, 1000}, {2, 0, 1, 4, 1000}, {3, 1, 0, 3, 1000}, {6, 4, 3, 0, 1000},
            {1000, 1000, 1000, 1000, 0}};
        for (int v = 0; v < 5; v++) {
            for (int u = 0; u < 5; u++) {
                Check.due("far(" + v + ", " + u + ")", x.far(v, u), due[v][u]);
            }
        }
        x.close(2);
        Check.due("far(0, 3)", x.far(0, 3), 9);
        Check.due("far(2, 3)", x.far(2, 3), 12);
        x.close(3);
        Check.due("far(0, 3)", x.far(0, 3), 1000);
        Check.due("village(3, 2)", x.village(3, 2), 0);
        Check.due("village(1, 2)", x.village(1, 2), 5);
    }

    private static void daysGoBy() {
        FuneralPost x = Check.told(LAND);
        bier(x, 0, 0, 0, -1, 0, 3, 0);
        letter(x, 0, 0, -1, -1, 2, 20, 3, 0);
        Check.due("day 0", x.day(), 0);
        bier(x, 0, 0, 0, -1, 0, 3, 0);
        bier(x, 1, 1, 2, 1, 1, 0, 7);
        letter(x, 2, -1, 1, -1, 1, 2, 1, 1);
        Check.due("village(2, 0)", x.village(2, 0), 0);
        Check.due("village(2, 1)", x.village(2, 1), 2);
        Check.due("village(0, 0)", x.village(0, 0), 3);
        Check.due("village(0, 1)", x.village(0, 1), 0);
        Check.due("village(0, 2)", x.village(0, 2), 10);
        Check.due("day 1", x.day(), 0);
        bier(x, 0, 1, 0, 2, 1, 3, 15);
        bier(x, 1, 2, 1, 2, 1, 0, 0);
        letter(x, 0, -1, 0, -1, 2, 20, 3, 1);
        letter(x, 1, 0, -1, -1, 3, 200, 1, 0);
        Check.due("day 2", x.day(), 1);
        bier(x, 0, 2, 1, 4, 1, 3, 0);
        bier(x, 1, 1, 1, 3, 0, 0, 3);
        letter(x, 2, -1, -1, 2, 1, 2, 1, 1);
        Check.due("about(6)", x.about(6), 4);
        Check.due("day 3", x.day(), 0);
        bier(x, 1, 2, 0, 5, 0, 0, 0);
        Check.due("day 4", x.day(), 0);
        bier(x, 0, 1, 1, 5, 1, 3, 14);
        /* In the bier in which it stays, it is not handed again. */
        letter(x, 0, -1, 0, -1, 2, 20, 3, 1);
        Check.due("day 5", x.day(), 0);
        bier(x, 1, 3, 0, -1, 0, 0, 0);
        Check.due("the buried stand nowhere", x.village(0, 1), 0);
        Check.due("day 6", x.day(), 1);
        letter(x, 0, -1, -1, 6, 2, 20, 3, 1);
        bier(x, 0, 1, 2, 7, 0, 3, 12);
        Check.days(x, 3);
        bier(x, 0, 2, 3, 10, 0, 3, 0);
        Check.due("day 10", x.day(), 0);
        Check.due("day 10 is over", x.day(), 0);
        bier(x, 0, 3, 3, -1, 0, 3, 0);
    }

    private static void foreseen() {
        FuneralPost x = Check.told(LAND);
        for (int day = 0; day < 12; day++) {
            Check.due("comes(0)", x.comes(0), 6);
            Check.due("comes(1)", x.comes(1), -1);
            Check.due("comes(2)", x.comes(2), 2);
            Check.due("comes(3)", x.comes(3), -1);
            Check.due("late()", x.late(), 10);
            Check.due("worth()", x.worth(), 4);
            Check.due("stuck()", x.stuck(), 10);
            Check.due("buried(0)", x.buried(0), Math.max(10, day));
            Check.due("buried(1)", x.buried(1), Math.max(5, day));
            Check.due("meets(0, 1, 0)", x.meets(0, 1, 0), -1);
            Check.due("nothing is done", x.about(4), day);
            x.day();
        }
        FuneralPost z = Check.told("village a;village b;village c;way a b 5;way b c 1;bier x from a to b on 0;"
                + "letter p at a to c;letter q at b to c;");
        Check.due("handed on, but not home, is not stuck", z.stuck(), 2);
        Check.due("the first is late, too", z.late(), 3);
        Check.due("worth", z.worth(), 0);
        FuneralPost y = Check.told("village a;village b;way a b 5;bier x from a to b on 0;"
                + "letter p at a to b by 5 worth 4;letter q at a to b by 4 worth 9;");
        Check.due("late() on its last day", y.late(), 2);
        Check.due("worth() on its last day", y.worth(), 4);
        Check.due("comes(0)", y.comes(0), 5);
        Check.days(y, 6);
        Check.due("late() when home", y.late(), 2);
        Check.due("worth() when home", y.worth(), 4);
        Check.due("comes(1) when home", y.comes(1), 5);
    }

    private static void dayEndsAt300() {
        FuneralPost x = Check.told("village a;village b;way a b 1;bier x from a to b on 60;letter p at a to b;"
                + "letter q at b to a;winter 0 to 200;");
        Check.due("comes(0)", x.comes(0), 202);
        Check.due("stuck()", x.stuck(), 2);
        x.close(0);
        Check.due("stuck() by a closed way", x.stuck(), 3);
        Check.due("buried(0)", x.buried(0), -1);
        for (int day = 0; day < 300; day++) {
            Check.due("day " + day, x.day(), 0);
        }
        Check.due("behind 299", x.day(), -1);
        Check.due("about(4)", x.about(4), 300);
        Check.due("about(7)", x.about(7), 40);
        Check.due("stuck()", x.stuck(), 3);
        Check.due("comes(0)", x.comes(0), -1);
        Check.due("buried(0)", x.buried(0), -1);
        Check.due("soon(0, 0)", x.soon(0, 0), 300);
        Check.due("soon(0, 1)", x.soon(0, 1), -1);
        Check.due("heard(0)", x.heard(0), 300);
        Check.due("trace(0, 1)", x.trace(0, 1), -1);
        Check.due("undo", x.undo(), true);
        Check.due("day", x.day(), 0);
        Check.due("day", x.day(), -1);
    }

    private static void restTakesTheFirstOfLikeOnes() {
        FuneralPost x = Check.told("village a;village b;village c;village d;way a c 1;way c d 2;way b d 1;way a b 2;"
                + "bier x from a to d on 0;bier y from d to a on 0;wait 1;");
        x.day();
        bier(x, 0, 1, 0, 1, 0, 3, 11);
        bier(x, 1, 1, 3, 1, 0, 0, 11);
        x.day();
        bier(x, 0, 2, 1, 3, 0, 3, 0);
        bier(x, 1, 2, 1, 2, 0, 0, 0);
    }

    private static void whoCannotComeHomeStands() {
        FuneralPost x = Check.told("village a;village b;village c;way a b 2;way b c 2;bier x from a to c on 0;"
                + "letter p at a to c;letter q at a to b;");
        x.day();
        letter(x, 0, -1, 0, -1, 2, 200, 1, 1);
        x.close(1);
        bier(x, 0, 2, 1, 2, 2, 2, 0);
        Check.days(x, 2);
        bier(x, 0, 1, 1, 2, 0, 2, 2);
        letter(x, 0, 1, -1, -1, 2, 200, 1, 1);
        letter(x, 1, -1, -1, 2, 1, 200, 1, 1);
        Check.due("stuck", x.stuck(), 1);
        x.close(1);
        Check.due("no longer stuck", x.stuck(), 0);
        Check.due("comes", x.comes(0), 5);
        x.day();
        bier(x, 0, 2, 2, 5, 1, 2, 0);
        letter(x, 0, -1, 0, -1, 2, 200, 1, 2);
        /* A way closed under a bier still brings it there. */
        x.close(1);
        Check.due("comes", x.comes(0), 5);
    }

    private static void winterHolds() {
        FuneralPost x = Check.told("village a;village b;village c;way a b 2;way b c 2;bier x from a to c on 0;"
                + "winter 2 to 4;");
        x.day();
        Check.days(x, 2);
        bier(x, 0, 1, 1, 2, 0, 2, 6);
        Check.days(x, 2);
        bier(x, 0, 1, 1, 2);
        x.day();
        bier(x, 0, 2, 2, 7);
        Check.due("buried", x.buried(0), 7);
        FuneralPost y = Check.told("village a;village b;way a b 2;bier x from a to b on 0;winter 0 to 0;");
        y.day();
        bier(y, 0, 1, 0, 0);
        y.day();
        bier(y, 0, 2, 1, 3);
    }

    private static void handedToTheNearest() {
        String start = "village a;village b;village c;village d;way a b 1;way b c 1;way c d 1;";
        FuneralPost x = Check.told(start + "bier x from a to b on 0;bier y from a to c on 0;bier z from a to d on 0 holds 1;"
                + "letter p at a to c;letter q at a to d;letter r at a to d;letter s at a to b;");
        x.day();
        /* p: y and z pass c; the first. q: z, which is full then; r: y, nearer than x; y is full: s into x. */
        int[] biers = {1, 2, 1, 0};
        for (int i = 0; i < biers.length; i++) {
            letter(x, i, -1, biers[i]);
        }
        FuneralPost w = Check.told("village a;village b;village c;way a b 1;bier x from a to b on 0;wait 2;"
                + "letter p at a to c;letter q at b to a;");
        Check.days(w, 2);
        /* None brings p nearer; q is not on the way. */
        letter(w, 0, 0, -1);
        letter(w, 1, 1, -1);
    }

    private static void staysInItsBierOfLikeOnes() {
        FuneralPost x = Check.told("village a;village b;village c;way a b 1;way b c 1;"
                + "bier x from a to c on 1;bier y from a to c on 0;letter p at a to c;wait 3;");
        x.day();
        letter(x, 0, -1, 1, -1, 2, 200, 1, 1);
        x.day();
        letter(x, 0, -1, 1, -1, 2, 200, 1, 1);
        /* But it goes over to one that is nearer, and has room. */
        FuneralPost y = Check.told("village a;village b;village c;way a b 1;way b c 1;"
                + "bier x from a to c on 1;bier y from a to b on 0;letter p at a to c;wait 3;");
        y.day();
        letter(y, 0, -1, 1);
        y.day();
        letter(y, 0, -1, 0, -1, 2, 200, 1, 2);
        bier(y, 1, 1, 0, 3, 0);
        /* A full bier keeps what it has. */
        FuneralPost z = Check.told("village a;village b;way a b 1;bier x from a to b on 0 holds 1;letter p at a to b;"
                + "letter q at a to b;wait 3;");
        Check.days(z, 2);
        letter(z, 0, -1, 0, -1, 1, 200, 1, 1);
        letter(z, 1, 0, -1);
    }

    private static void buriedLeaveTheirLetters() {
        FuneralPost x = Check.told("village a;village b;village c;way a b 1;way b c 1;bier x from a to b on 0;"
                + "bier y from b to c on 0;wait 1;letter p at a to c;letter q at a to b;");
        Check.due("comes(0)", x.comes(0), -1);
        Check.days(x, 2);
        letter(x, 0, -1, 0);
        Check.due("day 2", x.day(), 1);
        bier(x, 0, 3, 1, -1, 0);
        letter(x, 0, 1, -1, -1, 2, 200, 1, 1);
        letter(x, 1, -1, -1, 2);
        Check.due("village(1, 0)", x.village(1, 0), 1);
        Check.due("stuck()", x.stuck(), 1);
        /* With a way of one day less time they meet. */
        FuneralPost y = Check.told("village a;village b;village c;way a b 1;way b c 1;bier x from a to b on 0;"
                + "bier y from b to c on 0;wait 2*(rest=1)*(day=0)*(holds=2);letter p at a to c;");
        Check.due("meets(0, 1, 0)", y.meets(0, 1, 0), -1);
        Check.days(y, 3);
        letter(y, 0, -1, 0, -1, 2);
        Check.due("buried(0)", y.buried(0), 3);
    }

    /** The bier comes to a on day 7 (holds 5, two ways, a rest of 4), and is told to wait. */
    private static void waits(String wait, int days) {
        FuneralPost x = Check.told("village a;village b;village c;way a b 4;way a c 1;bier x from a to b on 7 holds 5;"
                + "wait " + wait + ";");
        Check.days(x, 8);
        /* Who does not wait has left on that day. */
        Check.due("wait " + wait + ": bier(0, 0)", x.bier(0, 0), days == 0 ? 2 : 1);
        Check.due("wait " + wait + ": bier(0, 2)", x.bier(0, 2), days == 0 ? 11 : 7 + days);
    }

    private static void formulas() {
        waits("0", 0);
        waits("3", 3);
        waits("9", 9);
        waits("10", 9);
        waits("0-1", 0);
        waits("day", 7);
        waits("holds", 5);
        waits("ways", 2);
        waits("rest", 4);
        waits("rest*2-holds", 3);
        waits("day=7 and ways=2 and rest=4 and holds=5", 1);
        waits("7/2", 3);
        waits("7%4", 3);
        waits("7/0+1", 1);
        waits("7%0+1", 1);
        waits("(0-7)/2+9", 6);
        waits("(0-7)%4+9", 6);
        waits("2+3*2", 8);
        waits("(2+3)*2-3", 7);
        waits("9-2-3", 4);
        waits("8/2/2", 2);
        waits("5%3*2", 4);
        waits("1<2", 1);
        waits("2<1", 0);
        waits("1<1", 0);
        waits("2>1", 1);
        waits("1>1", 0);
        waits("1=1", 1);
        waits("1=2", 0);
        waits("1+1<3", 1);
        waits("not 0", 1);
        waits("not 5", 0);
        waits("not not 5", 1);
        waits("not 1=2", 1);
        waits("not 1+1", 0);
        waits("4 and 2", 1);
        waits("1 and 0", 0);
        waits("0 or 7", 1);
        waits("0 or 0", 0);
        waits("1 or 0 and 0", 1);
        waits("(1 or 0) and 0", 0);
        waits("not 1 or 1", 1);
        waits("not (1 or 1)", 0);
        /* Ints wrap. */
        waits("9999*9999*9999%7", Math.max(0, 9999 * 9999 * 9999 % 7));
        waits("9999*9999*9999<0", 9999 * 9999 * 9999 < 0 ? 1 : 0);
        /* The least int by -1 is itself. */
        waits("(8192*8192*32)/(0-1)=8192*8192*32", 1);
        waits("(8192*8192*32)%(0-1)+2", 2);
    }

    private static void meets() {
        String start = "village a;village b;village c;way a b 2;way b c 2;";
        FuneralPost x = Check.told(start + "bier x from a to c on 0;bier y from c to a on 0;bier z from a to b on 0;");
        Check.due("meets(0, 1, 0)", x.meets(0, 1, 0), 2);
        Check.due("meets(0, 1, 1)", x.meets(0, 1, 1), 1);
        Check.due("meets(1, 0, 1)", x.meets(1, 0, 1), 1);
        Check.due("meets(0, 1, 2)", x.meets(0, 1, 2), -1);
        Check.due("meets(0, 1, -1)", x.meets(0, 1, -1), -1);
        Check.due("meets(0, 0, 0)", x.meets(0, 0, 0), -1);
        /* z starts with x, but is buried when y comes. */
        Check.due("meets(0, 2, 0)", x.meets(0, 2, 0), 0);
        Check.due("meets(0, 2, 1)", x.meets(0, 2, 1), 0);
        Check.due("meets(1, 2, 0)", x.meets(1, 2, 0), -1);
        x.day();
        Check.due("meets(0, 2, 0) behind", x.meets(0, 2, 0), -1);
        FuneralPost y = Check.told(start + "bier x from a to c on 0;bier y from a to c on 3;wait 3;");
        Check.due("on the day on which it leaves", y.meets(0, 1, 0), 3);
        Check.days(y, 2);
        Check.due("foreseen later", y.meets(1, 0, 0), 3);
    }

    public static void main(String[] args) {
        wrongNumbers();
        far();
        daysGoBy();
        foreseen();
        dayEndsAt300();
        restTakesTheFirstOfLikeOnes();
        whoCannotComeHomeStands();
        winterHolds();
        handedToTheNearest();
        staysInItsBierOfLikeOnes();
        buriedLeaveTheirLetters();
        formulas();
        meets();
        Check.finish();
    }
}
