/** Promises 23, 24 and 28: the best swap, the fewest biers, the fewest ways. */
public final class ChoiceTest {
    private static final int[] WRONG = {-1, 7, 31, 32, Integer.MIN_VALUE, Integer.MAX_VALUE};

    private static void swap(FuneralPost x, int bier, int other, int worths, int first, int second) {
        Check.due("swap(" + bier + ", " + other + ", 0)", x.swap(bier, other, 0), worths);
        Check.due("swap(" + bier + ", " + other + ", 1)", x.swap(bier, other, 1), first);
        Check.due("swap(" + bier + ", " + other + ", 2)", x.swap(bier, other, 2), second);
    }

    private static void noSwap(FuneralPost x, int bier, int other) {
        swap(x, bier, other, -1, -1, -1);
    }

    private static void swaps() {
        /* m has to go left, n to go right; both are put into the wrong ones by hand. */
        FuneralPost x = Check.told("village l;village m;village r;way l m 2;way m r 3;"
                + "bier x from m to l on 0 holds 2;bier y from m to r on 0 holds 1;wait 2;"
                + "letter n at m to r worth 4;letter o at m to l worth 2;letter p at m to l worth 1;");
        noSwap(x, 0, 1);
        x.day();
        swap(x, 0, 1, 7, 6, 1);
        swap(x, 1, 0, 7, 1, 6);
        Check.due("swap what 3", x.swap(0, 1, 3), -1);
        Check.due("swap what -1", x.swap(0, 1, -1), -1);
        noSwap(x, 0, 0);
        for (int wrong : WRONG) {
            noSwap(x, 0, wrong);
            noSwap(x, wrong, 1);
        }
        Check.due("take", x.take(0), 1);
        swap(x, 0, 1, 3, 6, 0);
        Check.due("take", x.take(1), 0);
        Check.due("hand", x.hand(0, 0), true);
        Check.due("hand", x.hand(1, 1), true);
        swap(x, 0, 1, 7, 6, 1);
        /* With p out, too, nothing that they have is worth more. */
        x.take(2);
        swap(x, 0, 1, 6, 2, 1);
        x.take(0);
        x.take(1);
        swap(x, 0, 1, 0, 0, 0);
        Check.due("nothing is done", x.letter(0, 0), 1);
        Check.days(x, 3);
        noSwap(x, 0, 1);
    }

    private static void swapsByLastDays() {
        /* Both go to c, x by day 4, y by day 6 as it waits longer. */
        String start = "village a;village b;village c;village d;way a b 2;way b c 2;way c d 1;"
                + "bier x from a to c on 0 holds 1;bier y from a to d on 0 holds 3;wait (holds=3)*(day=2)*2;winter 0 to 0;";
        FuneralPost x = Check.told(start + "letter n at a to c by 5 worth 3;letter o at a to c by 7 worth 2;"
                + "letter p at a to c by 5 worth 9;letter q at a to d by 9;");
        x.day();
        Check.due("first takes n", x.letter(0, 1), 0);
        Check.due("buried", x.buried(0), 5);
        /* y stands in b on day 3, in c on day 5. */
        swap(x, 0, 1, 15, 1, 14);
        FuneralPost y = Check.told(start.replace("day=2", "day=3") + "letter n at a to c by 5 worth 3;"
                + "letter o at a to c by 7 worth 2;letter p at a to c by 5 worth 9;letter q at a to d by 9;");
        y.day();
        /* Now y comes to c on day 7 alone: p is worth most in x. */
        swap(y, 0, 1, 9 + 2 + 1, 4, 11);
        swap(y, 1, 0, 9 + 2 + 1, 11, 4);
    }

    private static void swapsOfLikeOnes() {
        FuneralPost x = Check.told("village a;village b;village c;way a b 1;way b c 1;bier x from a to b on 0 holds 2;"
                + "bier y from a to c on 0 holds 2;wait 3;letter n at a to b;letter o at a to b;letter p at a to b;");
        x.day();
        swap(x, 0, 1, 3, 1, 6);
        swap(x, 1, 0, 3, 1, 6);
        x.take(2);
        swap(x, 0, 1, 2, 0, 3);
    }

    private static void swapsLookAtTheFirstTime() {
        /* p's goal is behind the home of x: x never stands there. */
        FuneralPost x = Check.told("village a;village b;village c;way a b 1;way b c 1;bier x from a to b on 0 holds 2;"
                + "bier y from a to b on 0 holds 2;letter p at a to c;wait 3;");
        x.day();
        swap(x, 0, 1, 0, 0, 1);
    }

    private static void cover(FuneralPost x, int set, int count, int which) {
        Check.due("cover(" + set + ", 0)", x.cover(set, 0), count);
        Check.due("cover(" + set + ", 1)", x.cover(set, 1), which);
    }

    private static void covers() {
        FuneralPost x = Check.told("village a;village b;village c;village d;village e;"
                + "way a b 1;way b c 1;way c d 1;way d e 1;bier u from a to b on 0;bier v from c to d on 0;"
                + "bier w from b to d on 0;bier x from a to c on 0;bier y from d to e on 1;bier z from c to e on 9;wait 3;");
        cover(x, 0, 0, 0);
        cover(x, 1, -1, -1);
        x.day();
        cover(x, 0, 0, 0);
        cover(x, 1, 1, 1);
        cover(x, 2, 1, 1);
        cover(x, 4, 1, 2);
        cover(x, 7, 1, 8);
        cover(x, 14, 1, 4);
        cover(x, 15, 2, 3);
        cover(x, 9, 2, 3);
        cover(x, 16, -1, -1);
        cover(x, 31, -1, -1);
        x.day();
        cover(x, 16, 1, 16);
        cover(x, 31, 2, 24);
        cover(x, 30, 2, 20);
        cover(x, 28, 2, 18);
        cover(x, 32, -1, -1);
        cover(x, -1, -1, -1);
        cover(x, 64, -1, -1);
        cover(x, Integer.MIN_VALUE, -1, -1);
        cover(x, Integer.MAX_VALUE, -1, -1);
        Check.due("cover what 2", x.cover(1, 2), -1);
        Check.due("cover what -1", x.cover(0, -1), -1);
        x.close(2);
        cover(x, 8, 1, 16);
        cover(x, 31, 2, 24);
        Check.days(x, 2);
        /* On a way, and buried, none passes. */
        cover(x, 1, -1, -1);
    }

    private static void bars(FuneralPost x, int village, int other, int count, int which) {
        Check.due("bars(" + village + ", " + other + ", 0)", x.bars(village, other, 0), count);
        Check.due("bars(" + village + ", " + other + ", 1)", x.bars(village, other, 1), which);
    }

    private static void barsPart() {
        /* a-b, b-c, a-c, c-d, b-d: two are enough from a, and from d. */
        FuneralPost x = Check.told("village a;village b;village c;village d;village e;"
                + "way a b 1;way b c 9;way a c 2;way c d 3;way b d 4;");
        bars(x, 0, 3, 2, 5);
        bars(x, 3, 0, 2, 5);
        bars(x, 1, 2, 3, 11);
        bars(x, 0, 4, 0, 0);
        bars(x, 0, 0, -1, -1);
        bars(x, 4, 4, -1, -1);
        for (int wrong : WRONG) {
            bars(x, 0, wrong, -1, -1);
            bars(x, wrong, 0, -1, -1);
        }
        Check.due("bars what 2", x.bars(0, 1, 2), -1);
        Check.due("bars what -1", x.bars(0, 1, -1), -1);
        x.close(1);
        bars(x, 0, 3, 2, 5);
        bars(x, 1, 2, 2, 9);
        x.close(0);
        bars(x, 0, 3, 1, 4);
        x.close(4);
        bars(x, 1, 0, 0, 0);
        Check.due("nothing is done", x.about(5), 19);
    }

    private static void threeBarsAtMost() {
        StringBuilder text = new StringBuilder("village a;village b;village c;village d;village e;village f;");
        text.append("way a b 1;way a c 1;way c b 1;way a d 1;way d b 1;");
        FuneralPost three = Check.told(text.toString());
        bars(three, 0, 1, 3, 11);
        text.append("way a e 1;way e b 1;");
        FuneralPost four = Check.told(text.toString());
        bars(four, 0, 1, -1, -1);
        four.close(0);
        bars(four, 0, 1, 3, 42);
    }

    public static void main(String[] args) {
        swaps();
        swapsByLastDays();
        swapsOfLikeOnes();
        swapsLookAtTheFirstTime();
        covers();
        barsPart();
        threeBarsAtMost();
        Check.finish();
    }
}
