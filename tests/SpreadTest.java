/** Promises 25 to 27, 29 and 30: how soon, when all have heard, who never hears, a trace and what lies there. */
public final class SpreadTest {
    private static final int[] WRONG = {-1, 5, 7, 32, Integer.MIN_VALUE, Integer.MAX_VALUE};
    /* x: a 0-1, b 3-4, c buried 6. y: d 2-3, b 4-5, a buried 7. z: b 5-6, d 7-8, e buried 9. */
    private static final String LAND = "village a;village b;village c;village d;village e;"
            + "way a b 2;way b c 2;way b d 1;way d e 1;"
            + "bier x from a to c on 0;bier y from d to a on 2;bier z from b to e on 5;wait 1;";

    private static void soon(FuneralPost x, int from, int... want) {
        int last = -1;
        int deaf = 0;
        for (int v = 0; v < want.length; v++) {
            Check.due("day " + x.about(4) + " soon(" + from + ", " + v + ")", x.soon(from, v), want[v]);
            last = Math.max(last, want[v]);
            deaf |= want[v] < 0 ? 1 << v : 0;
        }
        Check.due("heard(" + from + ")", x.heard(from), last);
        Check.due("deaf(" + from + ")", x.deaf(from), deaf);
    }

    private static void spreads() {
        FuneralPost x = Check.told(LAND);
        soon(x, 0, 0, 3, 6, 7, 9);
        soon(x, 1, 7, 0, 6, 7, 9);
        soon(x, 2, -1, -1, 0, -1, -1);
        /* y puts into x in b on day 4, the day on which x leaves. */
        soon(x, 3, 7, 4, 6, 0, 9);
        soon(x, 4, -1, -1, -1, -1, 0);
        Check.days(x, 2);
        /* x is on its way: what lies in a now comes nowhere. */
        soon(x, 0, 2, -1, -1, -1, -1);
        soon(x, 3, 7, 4, 6, 2, 9);
        Check.days(x, 4);
        soon(x, 1, -1, 6, -1, 7, 9);
        Check.days(x, 10);
        soon(x, 1, -1, 16, -1, -1, -1);
        for (int wrong : WRONG) {
            Check.due("soon(" + wrong + ", 0)", x.soon(wrong, 0), -1);
            Check.due("soon(0, " + wrong + ")", x.soon(0, wrong), -1);
            Check.due("soon(both " + wrong + ")", x.soon(wrong, wrong), -1);
            Check.due("heard(" + wrong + ")", x.heard(wrong), -1);
            Check.due("deaf(" + wrong + ")", x.deaf(wrong), -1);
        }
    }

    private static void eachAnswersByItself() {
        FuneralPost x = Check.told(LAND);
        Check.due("heard(2)", x.heard(2), 0);
        Check.due("heard(0)", x.heard(0), 9);
        Check.due("deaf(2)", x.deaf(2), 27);
        Check.due("deaf(0)", x.deaf(0), 0);
        Check.due("soon(2, 3)", x.soon(2, 3), -1);
        Check.due("heard(0)", x.heard(0), 9);
    }

    private static void spreadsByWayOfTheBuried() {
        /* x is buried in b on day 2; y, which stands there till then, takes the letter on, full or not. */
        String start = "village a;village b;village c;way a b 2;way b c 1;bier x from a to b on 0;";
        FuneralPost x = Check.told(start + "bier y from b to c on 2 holds 1;letter p at b to c;");
        soon(x, 0, 0, 2, 3);
        FuneralPost y = Check.told(start + "bier y from b to c on 1;");
        soon(y, 0, 0, 2, -1);
        y.close(0);
        soon(y, 0, 0, -1, -1);
        soon(y, 1, -1, 0, 2);
    }

    private static void trace(FuneralPost x, int village, int goal, int day, int... biers) {
        String call = "day " + x.about(4) + " trace(" + village + ", " + goal + ")";
        Check.due(call, x.trace(village, goal), day);
        Check.due("about(13) of " + call, x.about(13), biers.length);
        for (int i = 0; i < biers.length; i++) {
            Check.due("lies(" + i + ") of " + call, x.lies(i), biers[i]);
        }
        for (int wrong : new int[] {-1, biers.length, 300, Integer.MIN_VALUE, Integer.MAX_VALUE}) {
            Check.due("lies(" + wrong + ") of " + call, x.lies(wrong), -1);
        }
    }

    private static void traces() {
        FuneralPost x = Check.told(LAND + "letter p at a to c;letter q at a to d;letter r at a to e;");
        trace(x, 0, 2, 6, 0);
        trace(x, 0, 1, 3, 0);
        /* x brings it to b (nearest to e), z on. */
        trace(x, 0, 4, 9, 0, 2);
        trace(x, 3, 0, 7, 1);
        /* y brings it to b, x on. */
        trace(x, 3, 2, 6, 1, 0);
        trace(x, 1, 4, 9, 2);
        trace(x, 1, 0, 7, 1);
        trace(x, 2, 0, -1);
        trace(x, 0, 2, 6, 0);
        trace(x, 0, 0, -1);
        for (int wrong : WRONG) {
            x.trace(0, 4);
            trace(x, wrong, 0, -1);
            x.trace(0, 4);
            trace(x, 0, wrong, -1);
        }
        Check.due("nothing is done", x.about(7), 0);
        Check.due("nothing is done", x.letter(0, 6), 0);
        x.day();
        Check.due("x is full", x.bier(0, 3), 2);
        trace(x, 0, 4, 9, 0, 2);
        x.day();
        /* Handed in part of the way, but not home. */
        trace(x, 0, 4, -1);
        Check.days(x, 4);
        trace(x, 1, 4, 9, 2);
        x.close(3);
        trace(x, 1, 4, -1);
        trace(x, 1, 3, -1);
        x.undo();
        x.close(1);
        trace(x, 1, 3, 7, 2);
        Check.days(x, 9);
        Check.due("lies till the next", x.lies(0), 2);
        Check.due("lies till the next", x.about(13), 1);
    }

    private static void tracesWithLettersAboard() {
        FuneralPost x = Check.told("village a;village b;way a b 3;bier x from a to b on 0 holds 1;letter p at a to b;"
                + "letter q at a to b;wait 4;");
        Check.due("q does not come", x.comes(1), -1);
        Check.days(x, 2);
        trace(x, 0, 1, 7, 0);
        Check.due("p is still in x", x.letter(0, 1), 0);
    }

    public static void main(String[] args) {
        spreads();
        eachAnswersByItself();
        spreadsByWayOfTheBuried();
        traces();
        tracesWithLettersAboard();
        Check.finish();
    }
}
