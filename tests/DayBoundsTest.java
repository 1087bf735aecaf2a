/** The document's section 2, sentence by sentence: FAR, REST, how a DAY goes by, ACTS; each bound on both sides. */
public final class DayBoundsTest {
    private static final String TWO = "village a;village b;way a b 4;";
    private static final String THREE = "village a;village b;village c;";

    private static void bier(FuneralPost x, int bier, int... want) {
        for (int what = 0; what < want.length; what++) {
            Check.due("day " + x.about(4) + " bier(" + bier + ", " + what + ")", x.bier(bier, what), want[what]);
        }
    }

    /* A letter in a pile, in a bier or at home: the other two are NONE. */
    private static void in(FuneralPost x, int letter, int pile, int bier, int home, int handed) {
        String call = "day " + x.about(4) + " letter(" + letter + ", ";
        Check.due(call + "0)", x.letter(letter, 0), pile);
        Check.due(call + "1)", x.letter(letter, 1), bier);
        Check.due(call + "2)", x.letter(letter, 2), home);
        Check.due(call + "6)", x.letter(letter, 6), handed);
    }

    /* "FAR: the fewest days by open WAYS (1,000 if there is none)". */
    private static void far() {
        FuneralPost x = Check.told("village a;village b;village c;village d;village e;village f;village g;"
                + "way a b 9;way b c 9;way c d 9;way d e 9;way e f 9;way a c 9;");
        Check.due("its own", x.far(6, 6), 0);
        Check.due("none", x.far(6, 0), 1000);
        Check.due("none", x.far(0, 6), 1000);
        Check.due("a short cut", x.far(0, 5), 36);
        x.close(5);
        Check.due("closed", x.far(0, 5), 45);
        Check.due("closed, back", x.far(5, 0), 45);
        x.close(0);
        Check.due("none any more", x.far(0, 5), 1000);
        Check.due("the others", x.far(1, 5), 36);
        x.close(5);
        Check.due("open again", x.far(0, 5), 36);
        FuneralPost y = Check.told(Texts.FULL);
        int[] fromA = {0, 1, 3, 6, 10, 7, 9};
        for (int v = 0; v < 7; v++) {
            Check.due("far(0, " + v + ")", y.far(0, v), fromA[v]);
        }
    }

    /* "by which it is fewest days from its home (of like ones the first), till it is there". */
    private static void rest() {
        /* From a by b or by c: 3 days each. The first village, though its way is told last. */
        String ways = "way a c 1;way c d 2;way d b 1;way b a 2;";
        FuneralPost x = Check.told(THREE + "village d;" + ways + "bier x from a to d on 0;wait 1;");
        x.day();
        bier(x, 0, 1, 0, 1, 0, 3, 1 + 2 + 8);
        x.day();
        bier(x, 0, 2, 1, 3);
        /* A day more by b: it goes by c. */
        FuneralPost y = Check.told(THREE + "village d;" + ways.replace("b a 2", "b a 3") + "bier x from a to d on 0;wait 1;");
        y.day();
        bier(y, 0, 1, 0, 1, 0, 3, 1 + 4 + 8);
        y.day();
        bier(y, 0, 2, 2, 2);
        /* The way itself counts, not only what is left behind it. */
        FuneralPost z = Check.told(THREE + "way a b 9;way a c 2;way c b 3;bier x from a to b on 0;wait 1;");
        z.day();
        bier(z, 0, 1, 0, 1, 0, 1, 7);
        z.close(2);
        bier(z, 0, 1, 0, 1, 0, 1, 3);
        z.close(0);
        /* "that VILLAGE alone, if it can't come home". */
        bier(z, 0, 1, 0, 1, 0, 1, 1);
    }

    private static FuneralPost waiting(String wait) {
        FuneralPost x = Check.told(TWO + "bier x from a to b on 7 holds 5;" + (wait.isEmpty() ? "" : "wait " + wait + ";"));
        Check.days(x, 8);
        return x;
    }

    private static void stays(String wait, int days) {
        FuneralPost x = waiting(wait);
        for (int day = 7; day < 7 + days; day++) {
            Check.due("wait " + wait + ": stands behind day " + day, x.bier(0, 0), 1);
            Check.due("wait " + wait + ": till", x.bier(0, 2), 7 + days);
            x.day();
        }
        Check.due("wait " + wait + ": has left", x.bier(0, 0), 2);
        Check.due("wait " + wait + ": is to be there", x.bier(0, 2), 7 + days + 4);
    }

    /* "stays as many DAYS as comes of wait (0, if it is not told) .. 0 at least, 9 at most". */
    private static void stays() {
        stays("", 0);
        stays("0", 0);
        stays("1", 1);
        stays("2", 2);
        stays("0-1", 0);
        stays("0-9999", 0);
        stays("8", 8);
        stays("9", 9);
        stays("10", 9);
        stays("9999", 9);
        /* Who can't leave is told to stay till the day on which it came, or nine days more. */
        String[] waits = {"0-1", "0-9999", "0", "9", "10", "9999"};
        for (int i = 0; i < waits.length; i++) {
            FuneralPost x = Check.told(TWO + "bier x from a to b on 7;winter 7 to 30;wait " + waits[i] + ";");
            Check.days(x, 8);
            bier(x, 0, 1, 0, i < 3 ? 7 : 16);
        }
        /* "by day (the DAY), holds (its), ways (open ones there), rest (FAR from there to its home)". */
        stays("day", 7);
        stays("day-7", 0);
        stays("holds", 5);
        stays("ways", 1);
        stays("rest", 4);
        stays("day*1000+holds*100+ways*10+rest-7510", 4);
    }

    private static void staysByWhatIsOpen() {
        String land = THREE + "way a b 2;way b c 3;way a c 9;bier x from a to c on 0;";
        FuneralPost x = Check.told(land + "wait ways*(day>0);");
        x.day();
        x.close(1);
        bier(x, 0, 2, 1, 2);
        Check.days(x, 2);
        /* One way is open in b, when it comes there; open again is too late. */
        bier(x, 0, 1, 1, 3);
        x.close(1);
        bier(x, 0, 1, 1, 3);
        FuneralPost y = Check.told(land + "wait (rest=1000)*6+(ways=0)*2;");
        y.day();
        y.close(0);
        y.close(1);
        Check.days(y, 2);
        bier(y, 0, 1, 1, 10, 0, 2, 2);
        FuneralPost z = Check.told(land + "wait rest;");
        z.close(0);
        z.close(2);
        z.day();
        bier(z, 0, 1, 0, 9);
        FuneralPost w = Check.told(land + "wait rest;");
        w.close(0);
        w.day();
        bier(w, 0, 1, 0, 9);
        Check.due("far", w.far(0, 2), 9);
        FuneralPost v = Check.told(land + "wait rest;");
        v.day();
        bier(v, 0, 1, 0, 5);
    }

    /* "ints, wrapping; / cut, % its rest, both by 0: 0; relations, and, or, not are 1 or 0, of what is not 0". */
    private static void formulas() {
        String least = "4096*4096*128";
        stays("4096*4096*256+3", 3);
        stays(least + "<0", 1);
        stays("(" + least + "-1>0)*4", 4);
        stays("(0-(" + least + ")=" + least + ")*5", 5);
        stays("((" + least + ")/(0-1)=" + least + ")*6", 6);
        stays("(" + least + ")%(0-1)+7", 7);
        stays("(" + least + "-1)*2+5", 3);
        stays("7/2", 3);
        stays("(0-7)/2+9", 6);
        stays("7/(0-2)+9", 6);
        stays("(0-7)/(0-2)", 3);
        stays("7%4", 3);
        stays("(0-7)%4+9", 6);
        stays("7%(0-4)", 3);
        stays("5/0+2", 2);
        stays("0/0+2", 2);
        stays("(0-5)/0+2", 2);
        stays("5%0+2", 2);
        stays("0%0+2", 2);
        stays("5/(day-7)*4+2", 2);
        stays("1<2", 1);
        stays("2<2", 0);
        stays("3<2", 0);
        stays("1>2", 0);
        stays("2>2", 0);
        stays("3>2", 1);
        stays("1=2", 0);
        stays("2=2", 1);
        stays("3=2", 0);
        stays("(1<2)+(2=2)+(3>2)", 3);
        stays("5 and 7", 1);
        stays("5 and 0", 0);
        stays("0 and 5", 0);
        stays("0 and 0", 0);
        stays("(0-5) and (0-7)", 1);
        stays("5 or 7", 1);
        stays("5 or 0", 1);
        stays("0 or 5", 1);
        stays("0 or (0-5)", 1);
        stays("0 or 0", 0);
        stays("not 0", 1);
        stays("not 1", 0);
        stays("not 7", 0);
        stays("not (0-1)", 0);
        stays("(5 and 7)+(not 0)+(3 or 4)", 3);
        /* What is not so is 0, and nothing else. */
        for (String not : new String[] {"2<1", "1<1", "1>2", "1>1", "1=2", "2=1", "5 and 0", "0 and 5", "0 and 0", "0 or 0", "not 5"}) {
            stays("(" + not + ")+3", 3);
        }
        for (String so : new String[] {"1<2", "2>1", "2=2", "5 and 7", "0 or 7", "7 or 0", "7 or 7", "not 0"}) {
            stays("(" + so + ")+3", 4);
        }
        /* What binds more. */
        stays("2+3*2", 8);
        stays("9-3-2", 4);
        stays("8/4/2", 1);
        stays("8/4*2", 4);
        stays("9%5%3", 1);
        stays("1+1<3", 1);
        stays("3=1+2", 1);
        stays("1<2 and 3<2", 0);
        stays("1 or 0 and 0", 1);
        stays("0 and 0 or 1", 1);
        stays("not 1 or 1", 1);
        stays("not 0 and 0", 0);
        stays("not 1=2", 1);
        stays("not 2 < 1", 1);
    }

    /* "BIERS that start on it stand where they are from; BIERS on a WAY that are to be there on it stand there". */
    private static void startAndCome() {
        FuneralPost x = Check.told(TWO + "bier x from a to b on 2;bier y from b to a on 60;");
        bier(x, 0, 0, 0, -1, 0, 1, 0);
        bier(x, 1, 0, 1, -1, 0, 0, 0);
        Check.days(x, 2);
        bier(x, 0, 0, 0, -1, 0, 1, 0);
        x.day();
        bier(x, 0, 2, 1, 6, 0, 1, 0);
        Check.days(x, 3);
        bier(x, 0, 2, 1, 6, 0, 1, 0);
        x.day();
        bier(x, 0, 3, 1, -1, 0, 1, 0);
        Check.days(x, 53);
        bier(x, 1, 0, 1, -1);
        x.day();
        bier(x, 1, 2, 0, 64);
        Check.days(x, 4);
        bier(x, 1, 3, 0, -1);
    }

    /* "Who stands in his home is BURIED: LETTERS in it come into the pile there." "of their own goal are HOME". */
    private static void buried() {
        FuneralPost x = Check.told(THREE + "way a b 2;way b c 1;bier x from a to b on 0 holds 3;"
                + "letter p at a to b;letter q at a to c;letter r at c to b;letter s at b to a;");
        x.day();
        in(x, 0, -1, 0, -1, 1);
        in(x, 1, -1, 0, -1, 1);
        Check.due("none comes home a day early", x.day(), 0);
        in(x, 0, -1, 0, -1, 1);
        Check.due("p comes home", x.day(), 1);
        in(x, 0, -1, -1, 2, 1);
        in(x, 1, 1, -1, -1, 1);
        in(x, 2, 2, -1, -1, 0);
        in(x, 3, 1, -1, -1, 0);
        bier(x, 0, 3, 1, -1, 0, 1, 0);
        Check.due("village(1, 0)", x.village(1, 0), 10);
        Check.due("village(1, 1)", x.village(1, 1), 0);
        /* Who is buried takes none, though he would have room. */
        x.day();
        in(x, 3, 1, -1, -1, 0);
        /* Out of the buried one into one that stands there, on the same day. */
        FuneralPost y = Check.told(THREE + "way a b 2;way b c 1;bier x from a to b on 0;bier y from b to c on 2;letter q at a to c;");
        Check.days(y, 2);
        in(y, 0, -1, 0, -1, 1);
        y.day();
        in(y, 0, -1, 1, -1, 2);
    }

    /* (2): in a BIER that stands in its goal, though it goes on; not before, and not from another's pile. */
    private static void home() {
        FuneralPost x = Check.told(THREE + "way a b 2;way b c 1;bier x from a to c on 1 holds 9;wait 2;"
                + "letter p at a to b;letter q at a to c;letter r at a to b;");
        Check.due("day 0", x.day(), 0);
        Check.days(x, 3);
        Check.due("on the way", x.letter(0, 2), -1);
        Check.due("day 4", x.day(), 0);
        Check.due("day 5: p and r", x.day(), 2);
        in(x, 0, -1, -1, 5, 1);
        in(x, 2, -1, -1, 5, 1);
        bier(x, 0, 1, 1, 7, 1);
        Check.due("about(6)", x.about(6), 5);
        Check.days(x, 2);
        Check.due("day 8: q", x.day(), 1);
        in(x, 1, -1, -1, 8, 1);
        Check.due("about(6)", x.about(6), 7);
    }

    private static int handed(String ways, String biers, String letter) {
        FuneralPost x = Check.told(THREE + "village g;" + ways + biers + letter + "wait 3;");
        x.day();
        Check.due("in a pile or in a bier", x.letter(0, 0) < 0, x.letter(0, 1) >= 0);
        return x.letter(0, 1);
    }

    /* "NEAR: the fewest days that it is FAR from one of the VILLAGES of its REST"; "less than FAR from here". */
    private static void near() {
        String bier = "bier x from a to b on 0;";
        String letter = "letter p at a to g;";
        Check.due("from b it is as far", handed("way a b 1;way b g 3;way a g 3;", bier, letter), -1);
        Check.due("from b it is a day less", handed("way a b 1;way b g 2;way a g 3;", bier, letter), 0);
        Check.due("from b it is a day more", handed("way a b 1;way b g 4;way a g 3;", bier, letter), -1);
        Check.due("no way there", handed("way a b 1;", bier, letter), -1);
        /* Not only its home: a village on its way. */
        Check.due("b, on its way to c, is nearer", handed("way a b 2;way b c 5;way b g 3;way a g 4;", "bier x from a to c on 0;",
                letter), 0);
        Check.due("home is nearer, what is between is not", handed("way a b 2;way b c 2;way b g 9;way c g 1;way a g 5;",
                "bier x from a to c on 0;", letter), 0);
        /* The least, whatever is first. */
        String star = "way a b 1;way a c 1;way b g 4;way c g 3;";
        Check.due("y is nearer", handed(star, "bier x from a to b on 0;bier y from a to c on 0;", letter), 1);
        Check.due("x is nearer", handed(star, "bier x from a to c on 0;bier y from a to b on 0;", letter), 0);
    }

    /* "of like ones the one in which it is, then the first"; "(the one in which it is has)". */
    private static void likeOnes() {
        String ways = THREE + "way a b 1;way b c 1;";
        FuneralPost x = Check.told(ways + "bier x from a to c on 1;bier y from a to c on 0;bier z from a to c on 1;"
                + "letter p at a to c;letter q at a to c;letter r at a to c;wait 9;");
        Check.days(x, 2);
        in(x, 0, -1, 1, -1, 1);
        in(x, 1, -1, 1, -1, 1);
        /* r found no room in y; x is the first of like ones. */
        in(x, 2, -1, 0, -1, 1);
        /* By hand in the last one it stays there. */
        x.take(2);
        x.hand(2, 2);
        Check.days(x, 3);
        in(x, 2, -1, 2, -1, 2);
        in(x, 0, -1, 1, -1, 1);
        /* All bring it to b alone, three days from its goal; in whichever it is, there it stays. */
        for (int in = 0; in < 3; in++) {
            FuneralPost w = Check.told(THREE + "way a b 1;way b c 3;bier x from a to b on 0;bier y from a to b on 0;"
                    + "bier z from a to b on 0;letter p at a to c;wait 9;");
            w.day();
            in(w, 0, -1, 0, -1, 1);
            w.take(0);
            w.hand(0, in);
            Check.days(w, 3);
            in(w, 0, -1, in, -1, 2);
        }
        /* In one that is full, and alone: it stays. */
        FuneralPost y = Check.told(ways + "bier x from a to c on 0 holds 1;letter p at a to c;letter q at a to c;wait 9;");
        Check.days(y, 4);
        in(y, 0, -1, 0, -1, 1);
        in(y, 1, 0, -1, -1, 0);
        /* In one that is nearer no more than here: into the pile. */
        FuneralPost z = Check.told(ways + "bier x from b to a on 0;letter p at b to c;wait 9;");
        z.day();
        in(z, 0, 1, -1, -1, 0);
        Check.due("hand", z.hand(0, 0), true);
        in(z, 0, -1, 0, -1, 1);
        z.day();
        in(z, 0, 1, -1, -1, 1);
    }

    /* "of BIERS with room": 1 and 9 letters; LETTER by LETTER, so that room that one leaves is there for the next. */
    private static void room() {
        FuneralPost x = Check.told(TWO + "bier x from a to b on 0 holds 9;wait 5;");
        for (int i = 0; i < 10; i++) {
            x.post(0, 1);
        }
        x.day();
        for (int i = 0; i < 10; i++) {
            in(x, i, i < 9 ? -1 : 0, i < 9 ? 0 : -1, -1, i < 9 ? 1 : 0);
        }
        Check.due("full", x.bier(0, 3), 9);
        Check.due("no room for a tenth", x.hand(9, 0), false);
        x.take(4);
        Check.due("room again", x.hand(9, 0), true);
        x.day();
        in(x, 4, 0, -1, -1, 1);
        in(x, 9, -1, 0, -1, 1);
        /* y takes p on day 1, as it is nearer; q has p's room in x on that day, o, which is ahead of p, a day later. */
        String land = "village a;village c;village b;village g;way a b 1;way b g 1;way a c 1;way c g 1;"
                + "bier x from a to b on 0 holds 1;bier y from a to g on 1 holds 1;wait 9;";
        FuneralPost y = Check.told(land + "letter o at b to g;letter p at a to g;letter q at a to g;");
        y.day();
        in(y, 1, -1, 0, -1, 1);
        in(y, 2, 0, -1, -1, 0);
        y.day();
        in(y, 1, -1, 1, -1, 2);
        in(y, 2, -1, 0, -1, 1);
        FuneralPost z = Check.told(land + "letter o at a to b;letter p at a to g;");
        z.day();
        in(z, 0, -1, 0, -1, 1);
        z.take(0);
        z.hand(1, 0);
        z.day();
        in(z, 1, -1, 1, -1, 2);
        in(z, 0, 0, -1, -1, 1);
        z.day();
        in(z, 0, -1, 0, -1, 2);
    }

    /* "leave for the next VILLAGE of their REST, if there is one, not in winter"; its first and its last DAY. */
    private static void winter() {
        /* It could leave on day 5: what of winters that begin or end there. */
        int[][] winters = {{0, 4, 5}, {0, 5, 6}, {5, 5, 6}, {4, 4, 5}, {6, 6, 5}, {6, 200, 5}, {5, 8, 9}, {4, 6, 7}, {0, 0, 5}};
        for (int[] w : winters) {
            FuneralPost x = Check.told(TWO + "bier x from a to b on 2;wait 3;winter " + w[0] + " to " + w[1] + ";");
            for (int day = 0; day <= 9; day++) {
                x.day();
                int due = day < 2 ? 0 : day < w[2] ? 1 : day < w[2] + 4 ? 2 : 3;
                Check.due("winter " + w[0] + " to " + w[1] + ", day " + day, x.bier(0, 0), due);
                int till = due == 1 ? 5 : due == 2 ? w[2] + 4 : -1;
                Check.due("winter " + w[0] + " to " + w[1] + ", day " + day + ", till", x.bier(0, 2), till);
            }
        }
        FuneralPost x = Check.told(TWO + "bier x from a to b on 60;winter 60 to 200;");
        Check.days(x, 201);
        bier(x, 0, 1, 0, 60);
        x.day();
        bier(x, 0, 2, 1, 205);
        /* Who is on a way comes in winter, and letters are handed on in it. */
        FuneralPost y = Check.told(TWO + "bier x from a to b on 0;bier y from a to b on 1;letter p at a to b;letter q at b to a;"
                + "winter 1 to 9;");
        y.post(0, 1);
        y.post(0, 1);
        Check.days(y, 2);
        in(y, 2, -1, 0, -1, 1);
        in(y, 3, -1, 1, -1, 1);
        bier(y, 1, 1, 0, 1, 1);
        Check.days(y, 2);
        Check.due("comes home in winter", y.day(), 2);
        bier(y, 0, 3, 1, -1);
        bier(y, 1, 1, 0, 1);
    }

    /* "have stayed as long as they should"; "if there is one"; "as many DAYS later as the WAY has". */
    private static void leaving() {
        FuneralPost x = Check.told(THREE + "way a b 1;way b c 9;bier x from a to c on 0;wait (day=1)*2;");
        x.day();
        bier(x, 0, 2, 1, 1);
        x.day();
        bier(x, 0, 1, 1, 3);
        x.close(1);
        Check.days(x, 3);
        /* It has stayed long enough, but there is no next village; then there is. */
        bier(x, 0, 1, 1, 3, 0, 2, 2);
        x.close(1);
        bier(x, 0, 1, 1, 3, 0, 2, 6);
        x.day();
        bier(x, 0, 2, 2, 14);
        /* "who is on it comes there", though all is closed. */
        x.close(0);
        x.close(1);
        Check.days(x, 8);
        bier(x, 0, 2, 2, 14);
        x.day();
        bier(x, 0, 3, 2, -1);
    }

    private static final String ACTS = THREE + "way a b 2;way b c 2;bier x from a to c on 0 holds 1;bier y from b to c on 0;"
            + "letter p at a to b;letter q at b to a;wait 2;";

    /* "UNDO takes back the latest ACT that was not, REDO does that again": each kind of ACT. */
    private static void eachActIsUndone() {
        FuneralPost x = Check.told(ACTS);
        String first = Whole.state(x);
        Check.due("day", x.day(), 0);
        Check.due("post", x.post(2, 0), 2);
        Check.due("hand", x.hand(1, 1), true);
        String third = Whole.state(x);
        FuneralPost y = Check.told(ACTS);
        y.day();
        y.post(2, 0);
        y.hand(1, 1);
        Check.due("take", y.take(0), 0);
        String fourth = Whole.state(y);
        Check.due("close", y.close(1), 1);
        Check.due("open", y.close(1), 0);
        Check.due("an open way is as it was", Whole.state(y).equals(fourth), true);
        FuneralPost z = Check.told(ACTS);
        z.day();
        z.post(2, 0);
        z.hand(1, 1);
        int step = 3;
        while (step > 0) {
            Check.due("undo", z.undo(), true);
            step--;
            Check.due("about(7)", z.about(7), step);
            Check.due("about(8)", z.about(8), 3 - step);
        }
        Check.due("undone", Whole.state(z).equals(first), true);
        Check.due("redo", z.redo(), true);
        Check.due("redone", z.about(4), 1);
        Check.due("redo", z.redo(), true);
        Check.due("redo", z.redo(), true);
        Check.due("redo of none", z.redo(), false);
        Check.due("redone", Whole.state(z).equals(third), true);
        for (int i = 0; i < 2; i++) {
            Check.due("undo open", y.undo(), true);
            Check.due("closed again", y.about(5), 2);
            Check.due("undo close", y.undo(), true);
            Check.due("open", y.about(5), 0);
            Check.due("undo take", y.undo(), true);
            Check.due("in it again", y.letter(0, 1), 0);
            Check.due("undo hand", y.undo(), true);
            Check.due("in the pile again", y.letter(1, 0), 1);
            Check.due("undo post", y.undo(), true);
            Check.due("not posted", y.letter(2, 0), -2);
            for (int k = 0; k < 5; k++) {
                Check.due("redo", y.redo(), true);
            }
            Check.due("redo of none", y.redo(), false);
        }
        Check.due("all again", Whole.state(y).equals(fourth), true);
    }

    /* "(till another ACT)": each kind of ACT ends what could be done again. */
    private static void anotherActEndsRedo() {
        for (int kind = 0; kind < 5; kind++) {
            FuneralPost x = Check.told(ACTS);
            x.day();
            x.close(0);
            x.close(1);
            x.undo();
            x.undo();
            Check.due("about(8)", x.about(8), 2);
            Check.due("one again", x.redo(), true);
            Check.due("one undone", x.undo(), true);
            switch (kind) {
                case 0: x.day(); break;
                case 1: x.post(0, 1); break;
                case 2: x.hand(1, 1); break;
                case 3: x.take(0); break;
                default: x.close(0); break;
            }
            Check.due("about(7) behind act " + kind, x.about(7), 2);
            Check.due("about(8) behind act " + kind, x.about(8), 0);
            Check.due("redo behind act " + kind, x.redo(), false);
        }
        /* What is no ACT ends nothing. */
        FuneralPost x = Check.told(ACTS);
        x.close(0);
        x.undo();
        x.image(0);
        x.had(0, true);
        x.untell(0);
        x.later(3);
        x.trace(0, 1);
        x.feed(0, 0, 0, 0, 0);
        x.end(3);
        x.land();
        Check.due("about(8)", x.about(8), 1);
        Check.due("redo", x.redo(), true);
        Check.due("about(5)", x.about(5), 1);
    }

    /* "40 at most are kept, the oldest go". */
    private static void fortyActs() {
        for (int acts = 38; acts <= 43; acts++) {
            FuneralPost x = Check.told(ACTS);
            for (int i = 0; i < acts; i++) {
                x.close(i % 2);
                x.undo();
                x.redo();
            }
            int kept = Math.min(acts, 40);
            Check.due("about(7) behind " + acts, x.about(7), kept);
            for (int i = 0; i < kept; i++) {
                Check.due("undo " + i + " of " + acts, x.undo(), true);
                int done = acts - 1 - i;
                int closed = (done + 1) / 2 % 2 | done / 2 % 2 << 1;
                Check.due("about(5) behind " + done + " acts", x.about(5), closed);
            }
            Check.due("the oldest went", x.undo(), false);
            Check.due("about(7)", x.about(7), 0);
            Check.due("about(8)", x.about(8), kept);
            for (int i = 0; i < kept; i++) {
                Check.due("redo " + i + " of " + acts, x.redo(), true);
                int done = acts - kept + 1 + i;
                int closed = (done + 1) / 2 % 2 | done / 2 % 2 << 1;
                Check.due("about(5) behind " + done + " acts again", x.about(5), closed);
            }
            Check.due("redo of none", x.redo(), false);
            Check.due("about(7)", x.about(7), kept);
        }
    }

    /* What is behind 40 acts, some of them undone; a new land and a box begin anew, however many there were. */
    private static void actsBehindForty() {
        FuneralPost x = Check.told(ACTS);
        x.image(1);
        for (int i = 0; i < 45; i++) {
            x.close(0);
        }
        for (int i = 0; i < 5; i++) {
            x.undo();
        }
        Check.due("about(7)", x.about(7), 35);
        Check.due("about(8)", x.about(8), 5);
        x.close(1);
        Check.due("about(7) behind another act", x.about(7), 36);
        Check.due("about(8) behind another act", x.about(8), 0);
        for (int i = 0; i < 36; i++) {
            Check.due("undo", x.undo(), true);
        }
        Check.due("undo of none", x.undo(), false);
        Check.due("closed on the fifth", x.about(5), 1);
        for (int i = 0; i < 3; i++) {
            Check.due("redo", x.redo(), true);
        }
        Check.due("about(7)", x.about(7), 3);
        Check.due("back", x.back(1), 0);
        Check.due("about(7) behind back", x.about(7), 0);
        Check.due("about(8) behind back", x.about(8), 0);
        Check.due("undo", x.undo(), false);
        for (int i = 1; i <= 42; i++) {
            x.close(0);
            Check.due("about(7) behind back and " + i, x.about(7), Math.min(i, 40));
        }
        Check.due("land", Check.land(x, ACTS), 2);
        Check.due("about(7) of a new land", x.about(7), 0);
        Check.due("about(8) of a new land", x.about(8), 0);
        Check.due("undo", x.undo(), false);
        x.close(0);
        Check.due("about(7)", x.about(7), 1);
        Check.due("undo", x.undo(), true);
        Check.due("about(5)", x.about(5), 0);
    }

    /* Promise 8, "all as bits": of six biers, ten letters, seven villages; the buried, the gone and the handed on are none. */
    private static void villagesAsBits() {
        String land = "village a;village b;village c;village d;village e;village f;village g;"
                + "way a b 1;way a c 1;way a d 1;way a e 1;way a f 1;way g a 1;";
        String biers = "";
        for (int b = 0; b < 6; b++) {
            biers += "bier " + (char) ('t' + b) + " from a to " + (char) ('b' + b) + " on 0;";
        }
        FuneralPost x = Check.told(land + biers + "wait 2;letter p at g to b;letter q at b to g;");
        Check.due("ways of a", x.village(0, 2), 126);
        Check.due("ways of g", x.village(6, 2), 1);
        x.close(5);
        Check.due("ways of a", x.village(0, 2), 62);
        Check.due("ways of g", x.village(6, 2), 0);
        x.close(5);
        for (int i = 2; i < 10; i++) {
            x.post(6, i % 6);
        }
        Check.due("pile of g", x.village(6, 0), 1023 - 2);
        Check.due("pile of b", x.village(1, 0), 2);
        Check.due("pile of a", x.village(0, 0), 0);
        Check.due("biers in a", x.village(0, 1), 0);
        x.day();
        Check.due("biers in a", x.village(0, 1), 63);
        Check.due("stuck", x.stuck(), 1023);
        Check.due("late", x.late(), 1023);
        x.close(0);
        x.close(5);
        Check.days(x, 3);
        Check.due("biers in a", x.village(0, 1), 1 + 32);
        Check.due("biers in b", x.village(1, 1), 0);
        Check.due("biers in c, buried", x.village(2, 1), 0);
        FuneralPost y = Check.told(TWO + "bier x from a to b on 0 holds 9;wait 2;");
        for (int i = 0; i < 10; i++) {
            y.post(0, 1);
        }
        y.day();
        Check.due("pile of a", y.village(0, 0), 512);
        Check.due("in x", y.bier(0, 3), 9);
        y.take(3);
        Check.due("pile of a", y.village(0, 0), 512 + 8);
        Check.due("stuck", y.stuck(), 512);
        Check.days(y, 7);
        Check.due("home", y.about(6), 511);
        Check.due("late", y.late(), 512);
        Check.due("worth", y.worth(), 9);
    }

    /* What holds of a letter holds of the tenth: handed, undone, kept, foreseen, swapped. */
    private static void tenLetters() {
        FuneralPost x = Check.told(THREE + "way a b 2;way a c 3;bier x from a to b on 0 holds 9;bier y from a to c on 0 holds 9;wait 4;");
        for (int i = 0; i < 10; i++) {
            x.post(0, 1 + i % 2);
        }
        Check.due("image", x.image(0), 0);
        for (int turn = 0; turn < 3; turn++) {
            for (int i = 0; i < 10; i++) {
                in(x, i, 0, -1, -1, 0);
                Check.due("comes(" + i + ")", x.comes(i), 6 + i % 2);
            }
            x.day();
            for (int i = 0; i < 10; i++) {
                in(x, i, -1, i % 2, -1, 1);
                Check.due("comes(" + i + ")", x.comes(i), 6 + i % 2);
            }
            Check.due("swap", x.swap(0, 1, 0), 10);
            Check.due("swap", x.swap(0, 1, 1), 341);
            Check.due("swap", x.swap(0, 1, 2), 682);
            Check.due("late", x.late(), 0);
            Check.due("worth", x.worth(), 10);
            Check.due("take", x.take(8), 0);
            Check.due("take", x.take(9), 1);
            Check.due("hand", x.hand(8, 1), true);
            in(x, 8, -1, 1, -1, 2);
            Check.due("hand", x.hand(9, 0), true);
            Check.due("swap", x.swap(0, 1, 1), 341);
            if (turn == 0) {
                Check.due("image", x.image(1), 1);
                Check.due("back", x.back(1), 1);
                in(x, 8, -1, 1, -1, 2);
                in(x, 9, -1, 0, -1, 2);
                Check.due("back", x.back(0), 0);
            } else {
                for (int i = 0; i < 5; i++) {
                    Check.due("undo", x.undo(), true);
                }
            }
        }
    }

    /* "a LETTER is posted (10 in all; by DAY 200, worth 1)", from a land with 0 and one with 8 of them. */
    private static void posted() {
        for (int told : new int[] {0, 8}) {
            String text = TWO;
            for (int i = 0; i < told; i++) {
                text += "letter " + (char) ('p' + i) + " at a to b by 7 worth 9;";
            }
            FuneralPost x = Check.told(text);
            for (int i = told; i < 10; i++) {
                Check.due("post", x.post(1, 0), i);
                int[] want = {1, -1, -1, 0, 200, 1, 0};
                for (int what = 0; what < want.length; what++) {
                    Check.due("letter(" + i + ", " + what + ")", x.letter(i, what), want[what]);
                }
            }
            Check.due("an eleventh", x.post(1, 0), -1);
            Check.due("an eleventh", x.post(0, 1), -1);
            Check.due("about(0)", x.about(0), 10);
            Check.due("undo", x.undo(), true);
            Check.due("post", x.post(0, 1), 9);
            Check.due("its goal", x.letter(9, 3), 1);
        }
    }

    public static void main(String[] args) {
        far();
        rest();
        stays();
        staysByWhatIsOpen();
        formulas();
        startAndCome();
        buried();
        home();
        near();
        likeOnes();
        room();
        winter();
        leaving();
        eachActIsUndone();
        anotherActEndsRedo();
        fortyActs();
        actsBehindForty();
        villagesAsBits();
        tenLetters();
        posted();
        Check.finish();
    }
}
