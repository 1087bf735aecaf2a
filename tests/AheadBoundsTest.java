/** The document's section 3, sentence by sentence: what will be, what could be; each bound on both sides. */
public final class AheadBoundsTest {
    private static final String THREE = "village a;village b;village c;";

    /** Nobody can leave till the day, on which all ways are open again. */
    private static FuneralPost stillTill(int day, int ways, String land) {
        FuneralPost x = Check.told(land);
        for (int w = 0; w < ways; w++) {
            x.close(w);
        }
        Check.days(x, day);
        for (int w = 0; w < ways; w++) {
            x.close(w);
        }
        Check.due("about(4)", x.about(4), day);
        Check.due("about(5)", x.about(5), 0);
        return x;
    }

    private static void trace(FuneralPost x, int village, int goal, int day, int... biers) {
        String call = "day " + x.about(4) + " trace(" + village + ", " + goal + ")";
        Check.due(call, x.trace(village, goal), day);
        Check.due("about(13) of " + call, x.about(13), biers.length);
        for (int i = 0; i < biers.length; i++) {
            Check.due("lies(" + i + ") of " + call, x.lies(i), biers[i]);
        }
        Check.due("lies(-1) of " + call, x.lies(-1), -1);
        Check.due("lies behind the last of " + call, x.lies(biers.length), -1);
    }

    /* "till DAY 300 at most": DAY 299 is the last that goes by; what would be on DAY 300 is not. */
    private static void lastDay() {
        String land = THREE + "village d;way a b 9;way b c 9;way d b 9;bier x from a to c on 0;bier y from d to c on 0;"
                + "bier z from a to b on 0;letter p at a to b;letter q at b to c;";
        for (int day = 289; day <= 291; day++) {
            /* Who leaves on that day is in b nine days later. */
            boolean till = day <= 290;
            int there = till ? day + 9 : -1;
            FuneralPost x = stillTill(day, 3, land);
            String on = "from day " + day + " on: ";
            Check.due(on + "comes(0)", x.comes(0), there);
            Check.due(on + "comes(1)", x.comes(1), -1);
            Check.due(on + "buried(2)", x.buried(2), there);
            Check.due(on + "buried(0)", x.buried(0), -1);
            Check.due(on + "meets(0, 1, 0)", x.meets(0, 1, 0), there);
            Check.due(on + "meets(0, 1, 1)", x.meets(0, 1, 1), till ? 1 : -1);
            Check.due(on + "meets(0, 2, 0)", x.meets(0, 2, 0), day);
            Check.due(on + "stuck()", x.stuck(), till ? 0 : 2);
            Check.due(on + "late()", x.late(), 3);
            Check.due(on + "worth()", x.worth(), 0);
            Check.due(on + "soon(0, 1)", x.soon(0, 1), there);
            Check.due(on + "soon(0, 2)", x.soon(0, 2), -1);
            Check.due(on + "soon(0, 0)", x.soon(0, 0), day);
            Check.due(on + "heard(0)", x.heard(0), till ? there : day);
            Check.due(on + "deaf(0)", x.deaf(0), till ? 12 : 14);
            if (till) {
                trace(x, 0, 1, there, 0);
            } else {
                trace(x, 0, 1, -1);
            }
            trace(x, 0, 2, -1);
            Check.due(on + "had", x.had(0, true), 0);
            Check.due(on + "fit(2, 0)", x.fit(2, 0), till ? 3 : 1);
            Check.due(on + "ask(2, 1, 0)", x.ask(2, 1, 0), till ? 2 : 1);
            Check.days(x, 300 - day);
            Check.due(on + "about(4)", x.about(4), 300);
            Check.due(on + "day", x.day(), -1);
            Check.due(on + "letter(0, 2)", x.letter(0, 2), there);
            Check.due(on + "comes(0) when all is over", x.comes(0), there);
            Check.due(on + "buried(2) when all is over", x.buried(2), till ? 300 : -1);
            Check.due(on + "soon(1, 1) when all is over", x.soon(1, 1), 300);
            Check.due(on + "soon(1, 2) when all is over", x.soon(1, 2), -1);
        }
    }

    /* The same, by nothing but long ways, waiting and a winter: home on DAY 299 or on DAY 300. */
    private static void theLongestWay() {
        for (int last = 8; last <= 9; last++) {
            FuneralPost x = Check.told(THREE + "village d;village e;village f;village g;way a b 9;way b c 9;way c d 9;way d e 9;"
                    + "way e f 9;way f g " + last + ";bier x from a to g on 60;letter p at a to g;letter q at f to g;wait 9;"
                    + "winter 0 to 200;");
            int home = last == 8 ? 299 : -1;
            Check.due("comes(0)", x.comes(0), home);
            Check.due("comes(1)", x.comes(1), home);
            Check.due("buried(0)", x.buried(0), home);
            Check.due("soon(0, 6)", x.soon(0, 6), home);
            Check.due("soon(0, 5)", x.soon(0, 5), 282);
            Check.due("heard(0)", x.heard(0), last == 8 ? 299 : 282);
            Check.due("deaf(0)", x.deaf(0), last == 8 ? 0 : 64);
            Check.due("trace(0, 6)", x.trace(0, 6), home);
            Check.due("stuck()", x.stuck(), 0);
        }
    }

    /* "COMES: on which DAY a LETTER is HOME"; "(the DAY on which it came, if it is HOME)". */
    private static void comes() {
        FuneralPost x = Check.told(THREE + "way a b 2;way b c 2;bier x from a to c on 1;letter p at a to b;letter q at a to c;"
                + "letter r at c to a;wait 1;");
        for (int day = 0; day < 9; day++) {
            Check.due("day " + day + " comes(0)", x.comes(0), 4);
            Check.due("day " + day + " comes(1)", x.comes(1), 7);
            Check.due("day " + day + " comes(2)", x.comes(2), -1);
            Check.due("day " + day + " comes(3)", x.comes(3), -1);
            x.day();
        }
        Check.due("letter(0, 2)", x.letter(0, 2), 4);
        Check.due("letter(1, 2)", x.letter(1, 2), 7);
    }

    /* "LATE: LETTERS that are not by their last DAY"; "Worths of LETTERS that are HOME by their last DAY, then". */
    private static void late() {
        FuneralPost x = Check.told("village a;village b;way a b 5;bier x from a to b on 1 holds 9;"
                + "letter p at a to b by 7 worth 2;letter q at a to b by 6 worth 3;letter r at a to b by 5 worth 4;"
                + "letter s at b to a worth 9;letter t at a to b by 200 worth 6;");
        for (int day = 0; day < 10; day++) {
            Check.due("day " + day + " late", x.late(), 4 + 8);
            Check.due("day " + day + " worth", x.worth(), 2 + 3 + 6);
            x.day();
        }
        /* A last DAY that is over makes late who is not home yet, and who never is. */
        FuneralPost y = Check.told("village a;village b;way a b 1;bier x from a to b on 0;letter p at a to b by 0;letter q at b to a by 0;");
        Check.due("late", y.late(), 3);
        Check.due("worth", y.worth(), 0);
        /* By DAY 200, told or not, or posted: home on DAY 200, or on DAY 201. */
        for (int winter = 190; winter <= 191; winter++) {
            FuneralPost z = Check.told("village a;village b;way a b 9;bier x from a to b on 0 holds 3;letter p at a to b worth 4;"
                    + "letter q at a to b by 200 worth 2;winter 0 to " + winter + ";");
            z.post(0, 1);
            Check.due("comes", z.comes(0), winter + 10);
            Check.due("late", z.late(), winter == 190 ? 0 : 7);
            Check.due("worth", z.worth(), winter == 190 ? 7 : 0);
        }
    }

    /* "LETTERS in piles for which no BIER ever comes again by which they would be handed on". */
    private static void stuck() {
        FuneralPost x = Check.told(THREE + "way a b 2;way b c 2;bier x from a to b on 5 holds 1;letter p at a to c;letter q at a to c;"
                + "letter r at b to c;letter s at c to a;");
        for (int day = 0; day < 5; day++) {
            Check.due("day " + day + ": x takes p, though p never is home", x.stuck(), 2 + 4 + 8);
            x.day();
        }
        x.day();
        Check.due("p is in no pile", x.letter(0, 1), 0);
        Check.due("p is in no pile", x.stuck(), 2 + 4 + 8);
        Check.days(x, 2);
        Check.due("p is in b's pile, and stays", x.letter(0, 0), 1);
        Check.due("p stays", x.stuck(), 1 + 2 + 4 + 8);
        Check.due("p never is home", x.comes(0), -1);
        FuneralPost y = Check.told("village a;village b;way a b 1;bier x from a to b on 60;letter p at a to b;letter q at b to a;");
        for (int day = 0; day <= 60; day++) {
            Check.due("day " + day + " stuck", y.stuck(), 2);
            y.day();
        }
        Check.days(y, 3);
        Check.due("home", y.letter(0, 2), 61);
        Check.due("who is home is not stuck", y.stuck(), 2);
        y.post(0, 1);
        Check.due("posted when x is gone", y.stuck(), 6);
    }

    /* "the first DAY from now on on which both stand in one VILLAGE behind (1) of it, none of both BURIED". */
    private static void meets() {
        String ways = THREE + "way a b 2;way b c 2;";
        /* x is in b on days 2 and 3, with what it waits there; y comes on the day on which x leaves, and the one behind. */
        for (int start = 1; start <= 2; start++) {
            FuneralPost x = Check.told(ways + "bier x from a to c on 0;bier y from c to a on " + start + ";wait (ways=2);");
            Check.due("starts on " + start, x.meets(0, 1, 0), start == 1 ? 3 : -1);
            Check.due("starts on " + start, x.meets(1, 0, 0), start == 1 ? 3 : -1);
            Check.due("starts on " + start, x.meets(0, 1, 1), start == 1 ? 1 : -1);
            Check.due("starts on " + start, x.meets(1, 0, 1), start == 1 ? 1 : -1);
        }
        FuneralPost x = Check.told(ways + "bier x from a to c on 0;bier y from c to a on 0;bier z from a to b on 0;wait 2;");
        Check.due("x and z on day 0", x.meets(0, 2, 0), 0);
        Check.due("in a", x.meets(0, 2, 1), 0);
        Check.due("x and y", x.meets(0, 1, 0), 4);
        Check.due("y and z, which is buried when y comes", x.meets(1, 2, 0), -1);
        Check.due("their village", x.meets(1, 2, 1), -1);
        for (int day = 0; day <= 2; day++) {
            Check.due("from day " + day + " on", x.meets(2, 0, 0), day);
            x.day();
        }
        Check.due("they have left", x.meets(2, 0, 0), -1);
        Check.days(x, 2);
        Check.due("on that day", x.about(4), 5);
        Check.due("they are there still", x.meets(1, 0, 0), 5);
        Check.due("in b", x.meets(1, 0, 1), 1);
        Check.days(x, 2);
        Check.due("behind it", x.meets(1, 0, 0), -1);
        /* One standing in the other's home, where that is buried: they don't meet there. */
        FuneralPost y = Check.told(ways + "bier x from a to b on 0;bier y from b to c on 1;wait 5;");
        Check.due("y stands in b when x is buried there", y.buried(0), 7);
        Check.due("they don't meet", y.meets(0, 1, 0), -1);
    }

    /* "On which DAY a BIER is BURIED (the DAY that is now, if it is already)". */
    private static void buried() {
        FuneralPost x = Check.told("village a;village b;way a b 3;bier x from a to b on 2;bier y from b to a on 9;");
        for (int day = 0; day <= 8; day++) {
            Check.due("day " + day + " buried(0)", x.buried(0), Math.max(5, day));
            Check.due("day " + day + " buried(1)", x.buried(1), 12);
            x.day();
        }
        x.close(0);
        Check.due("never any more", x.buried(1), -1);
        Check.due("already", x.buried(0), 9);
    }

    private static void swap(FuneralPost x, int bier, int other, int worths, int first, int second) {
        String call = "day " + x.about(4) + " swap(" + bier + ", " + other + ", ";
        Check.due(call + "0)", x.swap(bier, other, 0), worths);
        Check.due(call + "1)", x.swap(bier, other, 1), first);
        Check.due(call + "2)", x.swap(bier, other, 2), second);
    }

    /* "by their last DAYS (the DAY on which it would stand there, the first time)". */
    private static void swapByLastDays() {
        /* x is in b on day 3 (till 5), in c on day 7, where it is buried; y goes elsewhere. */
        String land = THREE + "village d;way a b 3;way b c 2;way a d 1;bier x from a to c on 0 holds 2;bier y from a to d on 0 holds 2;"
                + "wait 2;";
        for (int by = 4; by <= 6; by++) {
            FuneralPost x = Check.told(land + "letter p at a to b by " + by + " worth 5;");
            x.day();
            boolean inTime = by >= 5;
            swap(x, 0, 1, inTime ? 5 : 0, inTime ? 1 : 0, inTime ? 0 : 1);
            swap(x, 1, 0, inTime ? 5 : 0, 0, 1);
        }
        for (int by = 8; by <= 10; by++) {
            FuneralPost x = Check.told(land + "letter p at a to c by " + by + " worth 5;");
            x.day();
            boolean inTime = by >= 9;
            swap(x, 0, 1, inTime ? 5 : 0, inTime ? 1 : 0, inTime ? 0 : 1);
        }
    }

    /* "no more than each holds"; "worths are most"; "of like ones the least set for the first one as bits". */
    private static void swapByRoom() {
        String land = THREE + "way a b 1;way a c 1;bier x from a to b on 0 holds 2;bier y from a to c on 0 holds 2;wait 5;";
        String toB = "letter p at a to b worth 4;letter q at a to b worth 3;letter r at a to b worth 2;letter s at a to b worth 1;";
        FuneralPost x = Check.told(land + toB);
        x.day();
        swap(x, 0, 1, 7, 3, 0);
        Check.due("r found no room", x.letter(2, 0), 0);
        Check.due("r into y", x.hand(2, 1), true);
        /* Two of three: the dearest. */
        swap(x, 0, 1, 7, 3, 4);
        swap(x, 1, 0, 7, 4, 3);
        Check.due("s into y", x.hand(3, 1), true);
        swap(x, 0, 1, 7, 3, 12);
        /* None of them is for c: y's alone are worth nothing, but it must have what x can't. */
        x.take(0);
        swap(x, 0, 1, 5, 6, 8);
        x.take(1);
        x.take(2);
        swap(x, 0, 1, 1, 8, 0);
        x.take(3);
        swap(x, 0, 1, 0, 0, 0);
        /* Worth nothing in either: all into the other one, as far as it has room; then the least set into the first. */
        FuneralPost y = Check.told(land + "village d;letter p at a to d;letter q at a to d;letter r at a to d;letter s at a to d;");
        swap(y, 0, 1, -1, -1, -1);
        y.day();
        swap(y, 0, 1, 0, 0, 0);
        int[][] due = {{0, 1}, {0, 3}, {1, 6}, {3, 12}};
        for (int i = 0; i < 4; i++) {
            Check.due("hand", y.hand(i, i / 2), true);
            swap(y, 0, 1, 0, due[i][0], due[i][1]);
            swap(y, 1, 0, 0, due[i][0], due[i][1]);
        }
        FuneralPost z = Check.told(land.replace("holds 2;bier y", "holds 1;bier y").replace("to c on 0 holds 2", "to b on 0 holds 3")
                + toB);
        z.day();
        /* Both go to b: any one of four for x; the least set. */
        Check.due("in x", z.letter(0, 1), 0);
        Check.due("in y", z.letter(3, 1), 1);
        swap(z, 0, 1, 10, 1, 14);
        swap(z, 1, 0, 10, 7, 8);
        z.take(3);
        swap(z, 0, 1, 6 + 3, 0, 7);
    }

    /* "BIERS that stand in one VILLAGE". */
    private static void swapInOneVillage() {
        FuneralPost x = Check.told(THREE + "way a b 1;way b c 1;bier x from a to c on 0;bier y from a to c on 1;"
                + "bier z from a to b on 0;bier w from b to c on 0;wait 1;");
        swap(x, 0, 2, -1, -1, -1);
        x.day();
        swap(x, 0, 2, 0, 0, 0);
        swap(x, 0, 1, -1, -1, -1);
        swap(x, 1, 0, -1, -1, -1);
        swap(x, 0, 3, -1, -1, -1);
        x.day();
        /* x and z have left for b together, y stands in a. */
        swap(x, 0, 2, -1, -1, -1);
        swap(x, 0, 1, -1, -1, -1);
        x.day();
        /* z is buried where x stands. */
        Check.due("z", x.bier(2, 0), 3);
        Check.due("x", x.bier(0, 1), 1);
        swap(x, 0, 2, -1, -1, -1);
        swap(x, 2, 0, -1, -1, -1);
    }

    private static void cover(FuneralPost x, int set, int count, int which) {
        Check.due("cover(" + set + ", 0)", x.cover(set, 0), count);
        Check.due("cover(" + set + ", 1)", x.cover(set, 1), which);
    }

    /* "the fewest BIERS that stand, by whose RESTS all of these are passed; of like ones the least set as bits". */
    private static void cover() {
        String land = THREE + "village d;village e;village f;village g;way a g 1;bier p from a to g on 0;bier q from b to g on 0;"
                + "bier r from c to g on 0;bier s from d to g on 0;bier t from e to g on 0;bier u from f to g on 0;wait 9;";
        FuneralPost x = Check.told(land);
        cover(x, 0, 0, 0);
        cover(x, 1, -1, -1);
        x.day();
        for (int set = 0; set < 64; set++) {
            cover(x, set, Integer.bitCount(set), set);
            cover(x, set | 64, Integer.bitCount(set | 1), set | 1);
        }
        x.close(0);
        cover(x, 63, 6, 63);
        cover(x, 64, -1, -1);
        cover(x, 127, -1, -1);
        cover(x, 128, -1, -1);
        cover(x, 0, 0, 0);
        /* All of them pass all: the first alone. */
        FuneralPost y = Check.told(THREE + "way a b 1;way b c 1;bier p from c to b on 0;bier q from a to c on 0;bier r from a to c on 0;"
                + "bier s from a to b on 0;bier t from b to c on 0;wait 3;");
        y.day();
        cover(y, 1, 1, 2);
        cover(y, 2, 1, 1);
        cover(y, 3, 1, 2);
        cover(y, 4, 1, 1);
        cover(y, 5, 1, 2);
        cover(y, 6, 1, 1);
        cover(y, 7, 1, 2);
        cover(y, 8, -1, -1);
        Check.days(y, 9);
        cover(y, 1, -1, -1);
        cover(y, 0, 0, 0);
        /* A land without villages has the empty set alone. */
        FuneralPost z = new FuneralPost();
        cover(z, 0, 0, 0);
        cover(z, 1, -1, -1);
    }

    private static void soon(FuneralPost x, int from, int... want) {
        int last = -1;
        int deaf = 0;
        for (int v = 0; v < want.length; v++) {
            Check.due("day " + x.about(4) + " soon(" + from + ", " + v + ")", x.soon(from, v), want[v]);
            last = Math.max(last, want[v]);
            deaf |= want[v] < 0 ? 1 << v : 0;
        }
        Check.due("heard(" + from + ")", x.heard(from), last);
        Check.due("deaf(" + from + ")", x.deaf(from), deaf);
    }

    /* "if it were handed from BIER to BIER, into piles and out of them, behind (1) of each DAY, and all had room". */
    private static void soon() {
        /* x is in b on day 2 alone; y stands in b from the day told on, and leaves at once. */
        String land = THREE + "way a b 2;way b c 4;bier x from a to b on 0 holds 1;letter p at a to b;letter q at a to b;";
        for (int start = 1; start <= 4; start++) {
            FuneralPost x = Check.told(land + "bier y from b to c on " + start + " holds 1;letter r at b to c;letter s at b to c;");
            soon(x, 0, 0, 2, start == 1 ? -1 : start + 4);
            soon(x, 1, -1, 0, start + 4);
            soon(x, 2, -1, -1, 0);
            x.day();
            soon(x, 0, 1, -1, -1);
            soon(x, 1, -1, 1, start + 4);
            Check.days(x, start);
            /* y left yesterday. */
            soon(x, 1, -1, start + 1, -1);
        }
        /* From a bier into another one that has its home farther, and on the last day on which that stands. */
        FuneralPost y = Check.told(THREE + "way a b 2;way b c 1;bier x from a to c on 1;bier y from b to a on 3;wait 0;");
        soon(y, 0, 0, 3, 4);
        soon(y, 1, 5, 0, 4);
        soon(y, 2, -1, -1, 0);
        /* None stands there now: on the day that is now, if both are one, alone. */
        FuneralPost z = Check.told("village a;village b;");
        for (int day = 0; day < 5; day++) {
            soon(z, 0, day, -1);
            soon(z, 1, -1, day);
            z.day();
        }
    }

    private static void bars(FuneralPost x, int village, int other, int count, int which) {
        Check.due("bars(" + village + ", " + other + ", 0)", x.bars(village, other, 0), count);
        Check.due("bars(" + village + ", " + other + ", 1)", x.bars(village, other, 1), which);
    }

    /* "the fewest open WAYS (3 at most) without which there is none; of like ones the least set as bits". */
    private static void bars() {
        String text = THREE + "village d;village e;village f;village g;";
        String[] over = {"way a b 1;", "way c a 1;way c b 1;", "way d a 1;way d b 1;", "way e a 1;way e b 1;"};
        int[] which = {0, 1, 1 | 2, 1 | 2 | 8, -1};
        FuneralPost x = Check.told(text);
        bars(x, 0, 1, 0, 0);
        for (int paths = 1; paths <= 4; paths++) {
            text += over[paths - 1];
            x = Check.told(text);
            bars(x, 0, 1, paths <= 3 ? paths : -1, which[paths]);
            bars(x, 1, 0, paths <= 3 ? paths : -1, which[paths]);
            bars(x, 0, 6, 0, 0);
        }
        /* Closed ways are none of them. */
        x.close(0);
        bars(x, 0, 1, 3, 2 | 8 | 32);
        x.close(2);
        bars(x, 0, 1, 2, 8 | 32);
        x.close(1);
        bars(x, 2, 1, 0, 0);
        x.close(5);
        bars(x, 0, 1, 1, 8);
        x.close(4);
        bars(x, 0, 1, 0, 0);
        x.close(0);
        bars(x, 0, 1, 1, 1);
        /* A chain: the first of its ways; the twelfth way alone. */
        FuneralPost y = Check.told(Texts.FULL.replace("way a g 9;", "").replace("way e g 2;", ""));
        bars(y, 0, 6, 1, 1 << 5);
        FuneralPost z = Check.told(Texts.FULL.replace("way f g 6;", "").replace("way e g 2;", ""));
        bars(z, 0, 6, 1, 1 << 9);
        bars(z, 6, 3, 1, 1 << 9);
        FuneralPost w = Check.told(THREE + "village d;way c d 1;way b c 1;way a b 1;");
        bars(w, 0, 3, 1, 1);
        bars(w, 0, 2, 1, 2);
        bars(w, 0, 1, 1, 4);
    }

    /* "would be HOME, if it were alone, and all BIERS empty"; "(behind NONE: nothing)". */
    private static void trace() {
        FuneralPost x = Check.told(THREE + "village d;way a b 1;way b c 1;way c d 1;bier x from a to b on 0 holds 1;bier y from b to c on 1 holds 1;"
                + "bier z from c to d on 2 holds 1;letter p at a to b;letter q at b to c;letter r at c to d;wait 1;");
        trace(x, 0, 1, 2, 0);
        trace(x, 0, 2, 3, 0, 1);
        trace(x, 0, 3, 4, 0, 1, 2);
        trace(x, 1, 3, 4, 1, 2);
        trace(x, 3, 0, -1);
        trace(x, 0, 3, 4, 0, 1, 2);
        trace(x, 0, 0, -1);
        x.day();
        Check.due("x is full", x.bier(0, 3), 1);
        Check.due("none for another one", x.letter(0, 1), 0);
        trace(x, 0, 3, 4, 0, 1, 2);
        Check.due("p is still in x", x.letter(0, 1), 0);
        x.day();
        trace(x, 0, 3, -1);
        trace(x, 1, 3, 4, 1, 2);
        /* What lies there stays, whatever goes on, till the next one. */
        Check.days(x, 9);
        x.undo();
        x.image(0);
        x.back(0);
        Check.due("lies(0)", x.lies(0), 1);
        Check.due("lies(1)", x.lies(1), 2);
        Check.due("about(13)", x.about(13), 2);
        /* Its last DAY is nothing to a trace. */
        FuneralPost y = Check.told("village a;village b;way a b 9;bier x from a to b on 0;winter 0 to 200;");
        trace(y, 0, 1, 210, 0);
        trace(y, 1, 0, -1);
    }

    public static void main(String[] args) {
        lastDay();
        theLongestWay();
        comes();
        late();
        stuck();
        meets();
        buried();
        swapByLastDays();
        swapByRoom();
        swapInOneVillage();
        cover();
        soon();
        bars();
        trace();
        Check.finish();
    }
}
