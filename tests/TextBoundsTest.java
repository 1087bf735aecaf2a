/** "Terms", sentence by sentence, and promises 2 to 5: each limit on both sides, each FAULT with its place. */
public final class TextBoundsTest {
    private static final String TWO = "village a;village b;";
    private static final String SIGNS = ";()<>=+-*/%";

    /* "A LAND is a text of at most 1,600 bytes". */
    private static void sixteenHundredBytes() {
        String full = Texts.padded("village a;_village b;", 1600);
        FuneralPost x = new FuneralPost();
        Check.due("bytes", full.length(), 1600);
        Check.feed(x, full);
        Check.due("about(11)", x.about(11), 1600);
        Check.due("no more", x.feed(0, 0, 0, 0, 0), -1);
        Check.due("land", x.land(), 0);
        Check.due("the last byte is read", x.about(1), 2);
        Texts.faultAt(2, Texts.padded("village a;_village b^", 1601));
        Texts.faultAt(1, Texts.padded("village a;_^$", 1601));
        Texts.faultAt(2, Texts.padded("village a;_village abcdefgh^", 1601));
        Texts.faultAt(1, Texts.padded("village a;_village ^abcdefghi", 1601));
        Texts.faultAt(2, Texts.padded("_wait 1234^", 1601));
        Texts.faultAt(1, Texts.padded("_wait ^12345", 1601));
        Texts.good(Texts.times(" ", 1600));
        Texts.faultAt(1, "^" + Texts.times("a", 1600));
        Texts.faultAt(1, "wait ^" + Texts.times("1", 1595));
        Texts.faultAt(2, "^" + Texts.times(";", 1600));
        Texts.good(Texts.times("\n", 1590) + "village a;");
        Texts.good(Texts.FULL);
        Texts.good(Texts.padded(Texts.FULL.replace("winter", "_winter"), 1600));
    }

    /* "if there would be more than 1,600". */
    private static void twentyBytesHaveRoomOrNot() {
        for (int bytes = 1575; bytes <= 1600; bytes++) {
            FuneralPost x = new FuneralPost();
            Check.feed(x, Texts.padded("village a;_", bytes));
            boolean room = bytes <= 1580;
            int got = x.feed(0x20202020, 0x20202020, 0x20202020, 0x20202020, 0x2020203b);
            Check.due("feed behind " + bytes, got, room ? bytes + 20 : -1);
            Check.due("about(11) behind " + bytes, x.about(11), room ? bytes + 20 : bytes);
            Check.due("land behind " + bytes, x.land(), room ? -1 : 0);
            Check.due("fault(1) behind " + bytes, x.fault(1), room ? bytes + 19 : -1);
        }
    }

    /* "of each number the highest first": each of the twenty bytes is where it should be. */
    private static void eachByteHasItsPlace() {
        for (int k = 0; k < 20; k++) {
            int[] n = {0x0a200a20, 0x200a200a, 0x0a0a2020, 0x20200a0a, 0x20202020};
            n[k / 4] = n[k / 4] & ~(255 << 24 - k % 4 * 8) | 0xff << 24 - k % 4 * 8;
            FuneralPost x = new FuneralPost();
            x.feed(0x20202020, 0x20202020, 0x20202020, 0x20202020, 0x20202020);
            Check.due("feed", x.feed(n[0], n[1], n[2], n[3], n[4]), 40);
            Check.due("land", x.land(), -1);
            Check.due("fault(0) of byte " + k, x.fault(0), 1);
            Check.due("fault(1) of byte " + k, x.fault(1), 20 + k);
        }
    }

    /* "The TAPE has its first n bytes"; what was behind them is gone. */
    private static void endKeepsTheFirst() {
        FuneralPost x = new FuneralPost();
        Check.feed(x, "village a;village b;");
        Check.due("end(-1)", x.end(-1), -1);
        Check.due("end(21)", x.end(21), -1);
        Check.due("end(22)", x.end(22), -1);
        Check.due("about(11)", x.about(11), 20);
        Check.due("end(20), all of them", x.end(20), 20);
        Check.due("about(11)", x.about(11), 20);
        Check.due("end(10)", x.end(10), 10);
        Check.due("end(11), gone", x.end(11), -1);
        Check.due("about(11)", x.about(11), 10);
        x.feed(0x77616974, 0x20313b20, 0x20202020, 0x20202020, 0x20202020);
        Check.due("about(11)", x.about(11), 30);
        Check.due("land", x.land(), 0);
        Check.due("one village", x.about(1), 1);
        Check.due("a wait behind it", x.about(12), 1);
        cut("wait 1a", 6, 2, 6);
        cut("wait 12345", 9, 2, 9);
        cut("village abcdefghi", 16, 2, 16);
        cut("village a;$", 10, 0, -1);
        cut("village a;village b;", 0, 0, -1);
        cut("village a;village b;", 19, 2, 19);
        cut("wait 12", 5, 2, 5);
        cut("way", 2, 2, 0);
    }

    private static void cut(String text, int bytes, int fault, int place) {
        FuneralPost x = new FuneralPost();
        Check.feed(x, text);
        Check.due("end(" + bytes + ")", x.end(bytes), bytes);
        Check.due("land of the first " + bytes + " of " + text, x.land(), fault == 0 ? 0 : -1);
        Check.due("fault(0) of the first " + bytes + " of " + text, x.fault(0), fault);
        Check.due("fault(1) of the first " + bytes + " of " + text, x.fault(1), place);
    }

    /* "TOKENS: words (a .. z), N, signs; blanks (32, 10) part them or not"; all 256 bytes. */
    private static void everyByte() {
        for (int b = 0; b < 256; b++) {
            char c = (char) b;
            boolean blank = b == 32 || b == 10;
            boolean letter = c >= 'a' && c <= 'z';
            boolean digit = c >= '0' && c <= '9';
            boolean sign = SIGNS.indexOf(c) >= 0;
            if (blank) {
                Texts.good("village" + c + "a" + c + ";" + c);
                Texts.faultAt(2, "wait 1" + c + "^2;");
                Texts.faultAt(2, "village a" + c + "^b;");
                Texts.faultAt(2, "wait 1" + c + "^day;");
            } else {
                Texts.faultAt(letter || digit || sign ? 2 : 1, "village a;^" + c);
            }
            if (!blank && !letter && !digit && !sign) {
                Texts.faultAt(1, "wait 1^" + c + ";");
                Texts.faultAt(1, "village a^" + c + ";");
                Texts.faultAt(1, "^" + c);
            }
            if (letter) {
                Texts.faultAt(1, "wait ^1" + c + ";");
                Texts.good("village " + c + ";");
            }
            if (digit) {
                Texts.good("wait 1" + c + ";");
                Texts.faultAt(2, "village a^" + c + ";");
            }
        }
    }

    /* "a .. z, 8 at most"; "a longer word: no TOKEN, at its first byte". */
    private static void words() {
        Texts.good("village abcdefgh;");
        Texts.good("village zzzzzzzz;");
        Texts.faultAt(1, "village ^abcdefghi;");
        Texts.faultAt(1, "village ^zzzzzzzzz;");
        Texts.faultAt(1, "village ^abcdefghijklmnopqrstuvwxyzabcdefghijklmnopqrstuvwxyz;");
        Texts.faultAt(1, "^villageab c;");
        Texts.faultAt(2, "^villagea c;");
        Texts.faultAt(2, "^villag c;");
        Texts.good(TWO + "bier abcdefgh from a to b on 1;letter abcdefgh at a to b;");
        Texts.faultAt(1, TWO + "bier ^abcdefghi from a to b on 1;");
        Texts.faultAt(1, TWO + "letter ^abcdefghi at a to b;");
        Texts.faultAt(1, TWO + "way ^abcdefghi b 1;");
        Texts.faultAt(1, TWO + "way a ^abcdefghi 1;");
        /* Unlike names are unlike, down to the last letter. */
        Texts.good("village a;village aa;village aaa;village aaaaaaa;village aaaaaaaa;village z;village zz;");
        Texts.good("village abcdefgh;village abcdefgi;village bbcdefgh;village abcdefg;village bcdefgh;village az;village ba;");
        Texts.good("village hgfedcba;village abcdefgh;village ab;village ba;village zzzzzzzy;village yzzzzzzz;village zzzzzzzz;");
        FuneralPost x = Check.told("village a;village aa;village abcdefgh;village abcdefgi;way a aa 1;way abcdefgi abcdefgh 2;");
        Check.due("a aa", x.far(0, 1), 1);
        Check.due("abcdefgh abcdefgi", x.far(2, 3), 2);
        Check.due("a abcdefgh", x.far(0, 2), 1000);
    }

    /* "N (1 to 4 digits)"; "each is as long as can be"; "no letter directly behind an N". */
    private static void numbers() {
        Texts.good("wait 1;");
        Texts.good("wait 1234;");
        Texts.faultAt(1, "wait ^12345;");
        Texts.faultAt(1, "wait ^00001;");
        Texts.faultAt(1, "wait ^99999999999999999999;");
        Texts.good(TWO + "way a b 0009;");
        Texts.faultAt(1, TWO + "way a b ^00009;");
        Texts.faultAt(4, TWO + "way a b ^0010;");
        Texts.good(TWO + "way a b9;");
        Texts.good(TWO + "bier x from a to b on0 holds9;");
        Texts.faultAt(1, TWO + "bier x from a to b on ^0holds 9;");
        Texts.faultAt(1, "wait ^1and 1;");
        Texts.good("wait 1 and 1;");
        Texts.good("wait 1 and1;");
        Texts.faultAt(1, "winter ^1to 2;");
        Texts.good("winter 1 to2;");
        Texts.faultAt(1, "wait ^1234a;");
        Texts.faultAt(1, "wait ^12345a;");
        /* An upper-case sign is no letter: the number stands, and the sign is no TOKEN. */
        Texts.faultAt(1, "wait 1^A;");
        waits("9999*1", 9);
        waits("0003", 3);
        waits("0010-2", 8);
    }

    /* "blanks part them or not; each is as long as can be". */
    private static void asLongAsCanBe() {
        Texts.faultAt(2, "^villagea;");
        Texts.faultAt(2, "^waitday;");
        Texts.faultAt(2, "wait ^dayday;");
        Texts.faultAt(2, "wait ^nota;");
        Texts.faultAt(2, "wait 1 ^anda 1;");
        Texts.good("wait(day)<(rest)or(holds)and(ways);");
        Texts.good("wait not(1);");
        Texts.faultAt(2, "wait not1 ^1;");
        Texts.good("wait not1;");
        Texts.good("\n\n village \n a\n;\n");
    }

    /* "Words that stand for themselves here are no NAMES", wherever a NAME is wanted. */
    private static void wordsAreNoNames() {
        String[] words = {"village", "way", "bier", "letter", "wait", "winter", "from", "to", "on", "holds", "at",
            "by", "worth", "or", "and", "not", "day", "ways", "rest"};
        for (String word : words) {
            Texts.faultAt(2, "village ^" + word + ";");
            Texts.faultAt(2, TWO + "way ^" + word + " a 1;");
            Texts.faultAt(2, TWO + "way a ^" + word + " 1;");
            Texts.faultAt(2, TWO + "bier ^" + word + " from a to b on 1;");
            Texts.faultAt(2, TWO + "bier x from ^" + word + " to b on 1;");
            Texts.faultAt(2, TWO + "bier x from a to ^" + word + " on 1;");
            Texts.faultAt(2, TWO + "letter ^" + word + " at a to b;");
            Texts.faultAt(2, TWO + "letter p at ^" + word + " to b;");
            Texts.faultAt(2, TWO + "letter p at a to ^" + word + ";");
            Texts.good("village " + word + "a;");
            Texts.good("village a" + word + ";");
        }
    }

    /* "At most 7 VILLAGES, 12 WAYS, 6 BIERS, 8 LETTERS"; "one of a sort too many: at the line's first word". */
    private static void countsOfEachSort() {
        Texts.good(Texts.FULL);
        FuneralPost x = Check.told(Texts.FULL);
        int[] about = {8, 7, 12, 6, 0, 0, 0, 0, 0, 0, 0, 0, 30, 0};
        for (int what = 0; what < about.length; what++) {
            Check.due("about(" + what + ") of a full land", x.about(what), about[what]);
        }
        Texts.faultAt(2, Texts.FULL + "^village h;");
        Texts.faultAt(2, Texts.FULL + "^village a;");
        Texts.faultAt(2, Texts.FULL + "^village");
        Texts.faultAt(2, Texts.FULL + "^way b g 1;");
        Texts.faultAt(2, Texts.FULL + "^way a b 1;");
        Texts.faultAt(2, Texts.FULL + "^way 1");
        Texts.faultAt(2, Texts.FULL + "^bier n from a to b on 1;");
        Texts.faultAt(2, Texts.FULL + "^bier u from");
        Texts.faultAt(2, Texts.FULL + "^letter n at a to b;");
        Texts.faultAt(2, Texts.FULL + "^letter $");
        Texts.faultAt(2, Texts.FULL + "^wait 1;");
        Texts.faultAt(2, Texts.FULL + "^wait;");
        Texts.faultAt(2, Texts.FULL + "^winter 1 to 2;");
        Texts.faultAt(2, Texts.FULL + "^winter 201");
        Texts.faultAt(2, "wait 1;^wait 1;");
        Texts.faultAt(2, "winter 1 to 2;^winter 1 to 2;");
        Texts.good("wait 1;winter 1 to 2;");
        Texts.good("winter 1 to 2;wait 1;");
        /* A fault ahead of it comes first. */
        Texts.faultAt(4, Texts.FULL.replace("way a g 9;", "way a g ^10;") + "village h;");
    }

    /* "WAYS of two unlike VILLAGES told ahead, each two once in whichever order; 1 .. 9 days". */
    private static void ways() {
        Texts.faultAt(5, "way ^a b 1;" + TWO);
        Texts.faultAt(5, "village a;way a ^b 1;village b;");
        Texts.faultAt(5, "village b;way ^a b 1;village a;");
        Texts.faultAt(3, TWO + "way a ^a 1;");
        Texts.faultAt(3, TWO + "way b ^b 1;");
        Texts.faultAt(3, TWO + "way a b 1;way a ^b 1;");
        Texts.faultAt(3, TWO + "way a b 1;way b ^a 1;");
        Texts.faultAt(3, TWO + "village c;way b c 1;way a c 1;way c ^b 2;");
        Texts.good(TWO + "village c;way b c 1;way a c 1;way b a 2;");
        Texts.faultAt(4, TWO + "way a b ^0;");
        Texts.good(TWO + "way a b 1;");
        Texts.good(TWO + "way a b 9;");
        Texts.faultAt(4, TWO + "way a b ^10;");
        Texts.faultAt(4, TWO + "way a b ^9999;");
        Check.due("1 day", Check.told(TWO + "way a b 1;").far(0, 1), 1);
        Check.due("9 days", Check.told(TWO + "way a b 9;").far(1, 0), 9);
    }

    /* "BIERS from one VILLAGE told ahead to another one, on a DAY 0 .. 60; holds 1 .. 9, 2 if not told". */
    private static void biers() {
        Texts.faultAt(5, "village b;bier x from ^a to b on 1;village a;");
        Texts.faultAt(5, "village a;bier x from a to ^b on 1;village b;");
        Texts.faultAt(3, TWO + "bier x from a to ^a on 1;");
        Texts.faultAt(3, TWO + "bier x from a to b on 1;bier ^x from b to a on 2;");
        Texts.good(TWO + "bier a from a to b on 1;bier b from b to a on 2;");
        Texts.good(TWO + "bier x from a to b on 0;");
        Texts.good(TWO + "bier x from a to b on 60;");
        Texts.faultAt(4, TWO + "bier x from a to b on ^61;");
        Texts.faultAt(4, TWO + "bier x from a to b on 1 holds ^0;");
        Texts.good(TWO + "bier x from a to b on 1 holds 1;");
        Texts.good(TWO + "bier x from a to b on 1 holds 9;");
        Texts.faultAt(4, TWO + "bier x from a to b on 1 holds ^10;");
        Texts.faultAt(2, TWO + "bier x from a to b on 1 holds 1 ^holds 1;");
        /* It starts on its DAY. */
        for (int start : new int[] {0, 1, 60}) {
            FuneralPost x = Check.told(TWO + "way a b 9;bier x from a to b on " + start + ";");
            Check.days(x, start);
            Check.due("not yet, day " + start, x.bier(0, 0), 0);
            x.day();
            Check.due("started, day " + start, x.bier(0, 0), 2);
            Check.due("to be there, day " + start, x.bier(0, 2), start + 9);
        }
        for (int holds : new int[] {1, 2, 9}) {
            String told = holds == 2 ? "" : " holds " + holds;
            FuneralPost x = Check.told(TWO + "way a b 9;bier x from a to b on 0" + told + ";wait 5;");
            x.day();
            for (int i = 0; i < 10; i++) {
                x.post(0, 1);
                Check.due("hand " + i + " of " + holds, x.hand(i, 0), i < holds);
            }
            Check.due("bier(0, 3)", x.bier(0, 3), holds);
        }
    }

    /* "LETTERS at one VILLAGE told ahead, to another one; by a DAY 0 .. 200, 200; worth 1 .. 9, 1". */
    private static void letters() {
        Texts.faultAt(5, "village b;letter p at ^a to b;village a;");
        Texts.faultAt(5, "village a;letter p at a to ^b;village b;");
        Texts.faultAt(3, TWO + "letter p at a to ^a;");
        Texts.faultAt(3, TWO + "letter p at a to b;letter ^p at b to a;");
        Texts.good(TWO + "letter a at a to b;letter b at a to b;bier a from a to b on 1;");
        Texts.good(TWO + "letter p at a to b by 0;");
        Texts.good(TWO + "letter p at a to b by 200;");
        Texts.faultAt(4, TWO + "letter p at a to b by ^201;");
        Texts.faultAt(4, TWO + "letter p at a to b worth ^0;");
        Texts.good(TWO + "letter p at a to b worth 1;");
        Texts.good(TWO + "letter p at a to b worth 9;");
        Texts.faultAt(4, TWO + "letter p at a to b worth ^10;");
        Texts.faultAt(2, TWO + "letter p at a to b worth 1 ^by 1;");
        Texts.faultAt(2, TWO + "letter p at a to b by 1 ^by 1;");
        Texts.faultAt(2, TWO + "letter p at a to b worth 1 ^worth 1;");
        FuneralPost x = Check.told(TWO + "letter p at a to b;letter q at a to b by 0;letter r at a to b by 200 worth 1;"
                + "letter s at b to a worth 9;");
        int[][] due = {{200, 1}, {0, 1}, {200, 1}, {200, 9}};
        for (int i = 0; i < due.length; i++) {
            Check.due("letter(" + i + ", 4)", x.letter(i, 4), due[i][0]);
            Check.due("letter(" + i + ", 5)", x.letter(i, 5), due[i][1]);
        }
    }

    /* "numbered as told, each sort by itself". */
    private static void numberedAsTold() {
        FuneralPost x = Check.told("village c;wait 1;village a;way a c 3;letter q at a to c worth 7;village b;"
                + "bier z from a to c on 5;way b a 4;letter p at c to b worth 8;bier y from c to b on 6;");
        Check.due("about(0)", x.about(0), 2);
        Check.due("about(1)", x.about(1), 3);
        Check.due("about(2)", x.about(2), 2);
        Check.due("about(3)", x.about(3), 2);
        Check.due("c a", x.far(0, 1), 3);
        Check.due("a b", x.far(1, 2), 4);
        Check.due("q", x.letter(0, 5), 7);
        Check.due("q", x.letter(0, 0), 1);
        Check.due("q", x.letter(0, 3), 0);
        Check.due("p", x.letter(1, 5), 8);
        Check.due("p", x.letter(1, 0), 0);
        Check.due("p", x.letter(1, 3), 2);
        Check.due("z", x.bier(0, 1), 1);
        Check.due("z", x.bier(0, 4), 0);
        Check.due("y", x.bier(1, 1), 0);
        Check.due("y", x.bier(1, 4), 2);
        x.close(0);
        Check.due("the first way", x.far(0, 1), 1000);
    }

    /* "winter (DAYS 0 .. 200, from the first one to the second one) once". */
    private static void winters() {
        Texts.good("winter 0 to 0;");
        Texts.good("winter 0 to 200;");
        Texts.good("winter 200 to 200;");
        Texts.good("winter 199 to 200;");
        Texts.faultAt(4, "winter ^201 to 201;");
        Texts.faultAt(4, "winter 200 to ^201;");
        Texts.faultAt(4, "winter 200 to ^199;");
        Texts.faultAt(4, "winter 1 to ^0;");
        Texts.faultAt(2, "winter^;");
        Texts.faultAt(2, "winter 1^;");
        Texts.faultAt(2, "winter 1 ^from 2;");
        Texts.faultAt(2, "winter 1 to^;");
        Texts.faultAt(2, "winter 1 to 2 ^3;");
        Texts.faultAt(2, "winter ^a to 2;");
        Texts.faultAt(2, "winter 1 to ^a;");
    }

    /* "30 in one e", what is in brackets with it; "a unit too many: at its first TOKEN". */
    private static void units() {
        Texts.good("wait " + Texts.sum(29) + ";");
        Texts.good("wait " + Texts.sum(30) + ";");
        Texts.faultAt(2, "wait " + Texts.sum(30) + "+^0;");
        Texts.faultAt(2, "wait " + Texts.sum(30) + "+^day+1;");
        Texts.faultAt(2, "wait " + Texts.sum(30) + "+^(1);");
        Texts.faultAt(2, "wait " + Texts.sum(30) + " or not ^holds;");
        Texts.faultAt(1, "wait " + Texts.sum(30) + "+^12345;");
        Texts.good("wait (" + Texts.sum(29) + ");");
        Texts.faultAt(2, "wait (" + Texts.sum(29) + "+^1);");
        Texts.good("wait (" + Texts.sum(14) + ")*(" + Texts.sum(14) + ");");
        Texts.faultAt(2, "wait (" + Texts.sum(14) + ")*(" + Texts.sum(14) + "+^1);");
        Texts.faultAt(2, "wait (" + Texts.sum(15) + ")*(" + Texts.sum(13) + ")+^1;");
        for (int units : new int[] {1, 2, 29, 30}) {
            Check.due("about(12)", Check.told("wait " + Texts.sum(units) + ";").about(12), units);
        }
        Check.due("about(12) with brackets", Check.told("wait ((1)+day)*holds-rest/ways%2 and not 3<4;").about(12), 10);
        /* Each with as many nots as can be: the last one still counts. */
        String seven = Texts.times("not ", 7);
        String many = Texts.times(seven + "1 or ", 29) + seven;
        waits(many + "0", 1);
        waits(many + "1", 0);
        Texts.faultAt(2, "wait " + many + "1 or ^1;");
    }

    /* "a unit ( e ), or a one behind not, within 6 others at most"; "at its first TOKEN, or the not". */
    private static void within() {
        for (int nots = 0; nots <= 8; nots++) {
            for (int brackets = 0; brackets <= 8; brackets++) {
                int within = nots + brackets;
                String ahead = Texts.times("not ", nots) + Texts.times("(", brackets);
                String behind = "1" + Texts.times(")", brackets) + ";";
                if (within <= 7) {
                    Texts.good("wait " + ahead + behind);
                } else {
                    /* The eighth of them all. */
                    int place = nots >= 8 ? 28 : nots * 4 + 7 - nots;
                    Texts.fault("wait " + ahead + behind, 2, 5 + place);
                }
            }
        }
        Texts.good("wait ((((((not 1))))));");
        Texts.faultAt(2, "wait (((((((^not 1)))))));");
        Texts.faultAt(2, "wait not(not(not(not ^(1))));");
        Texts.good("wait not(not(not((1))));");
        /* Side by side they are not within one another. */
        Texts.good("wait ((((((1))))))+((((((1))))))+((((((1))))));");
        Texts.good("wait not not not not not not not 1 and not not not not not not not 1;");
        Texts.good("wait (1)+(1)+(1)+(1)+(1)+(1)+(1)+(1)+(1)+(1);");
        /* The unit within seven others is none of these. */
        Texts.good("wait (((((((day)))))));");
        Texts.faultAt(1, "wait (((((((^$");
    }

    /* "one = not one | sum [(< | > | =) sum]", and the others: what can stand where. */
    private static void grammar() {
        for (char relation : "<>=".toCharArray()) {
            Texts.good("wait 1" + relation + "2;");
            for (char second : "<>=".toCharArray()) {
                Texts.faultAt(2, "wait 1" + relation + "2^" + second + "3;");
                Texts.good("wait (1" + relation + "2)" + second + "3;");
                Texts.good("wait 1" + relation + "2 and 2" + second + "3;");
            }
            Texts.faultAt(2, "wait 1" + relation + "^" + relation + "2;");
            Texts.faultAt(2, "wait ^" + relation + "2;");
            Texts.faultAt(2, "wait 1" + relation + "^;");
            Texts.faultAt(2, "wait 1" + relation + "^not 2;");
        }
        for (char sign : "+-*/%".toCharArray()) {
            Texts.good("wait 1" + sign + "2" + sign + "3;");
            Texts.faultAt(2, "wait ^" + sign + "2;");
            Texts.faultAt(2, "wait 1" + sign + "^;");
            Texts.faultAt(2, "wait 1" + sign + "^" + sign + "2;");
            Texts.faultAt(2, "wait 1" + sign + "^not 2;");
        }
        for (String word : new String[] {"and", "or"}) {
            Texts.good("wait 1 " + word + " 2 " + word + " not 3;");
            Texts.faultAt(2, "wait ^" + word + " 2;");
            Texts.faultAt(2, "wait 1 " + word + "^;");
            Texts.faultAt(2, "wait 1 " + word + " ^" + word + " 2;");
        }
        Texts.faultAt(2, "wait not^;");
        Texts.faultAt(2, "wait (^);");
        Texts.faultAt(2, "wait (1^;");
        Texts.faultAt(2, "wait (1^");
        Texts.faultAt(2, "wait 1^);");
        Texts.faultAt(2, "wait 1 ^1;");
        Texts.faultAt(2, "wait 1 ^day;");
        Texts.faultAt(2, "wait 1 ^(1);");
        Texts.faultAt(2, "wait ^a;");
        Texts.faultAt(2, "wait ^at;");
        Texts.faultAt(2, "wait ^way;");
    }

    /* "2 one that can't stand there", each place of each line; the end: the text's length. */
    private static void everyPlaceOfALine() {
        String[] lines = {"village c;", "way a b 1;", "bier x from a to b on 1 holds 2;", "letter p at a to b by 3 worth 4;",
            "wait 1;", "winter 1 to 2;"};
        for (String line : lines) {
            Texts.good(TWO + line);
            String[] tokens = line.replace(";", " ;").split(" ");
            String ahead = TWO;
            for (int i = 0; i < tokens.length; i++) {
                Texts.faultAt(2, ahead + "^)");
                Texts.faultAt(1, ahead + "^$");
                Texts.faultAt(1, ahead + "^abcdefghi");
                Texts.faultAt(1, ahead + "^12345");
                if (" ; holds by worth ".contains(" " + tokens[i] + " ")) {
                    Texts.good(ahead + ";");
                } else {
                    Texts.faultAt(2, ahead + "^;");
                }
                if (i > 0) {
                    /* The end of the text is behind its blanks. */
                    Texts.faultAt(2, ahead.trim() + "^");
                    Texts.faultAt(2, ahead + " \n ^");
                }
                ahead += tokens[i] + " ";
            }
        }
        for (String word : new String[] {"from", "to", "on", "holds", "at", "by", "worth", "or", "and", "not", "day", "ways",
            "rest", "a", "grave", "villages", "1", "(", "<"}) {
            Texts.faultAt(2, TWO + "^" + word + ";");
        }
        Texts.good("");
    }

    /* "FAULTS, the first by its place, at one place the least". */
    private static void whichFaultIsFirst() {
        /* 1 ahead of 2 at one place; of two places the first, whatever they are. */
        Texts.faultAt(1, "^$");
        Texts.faultAt(1, "village ^$");
        Texts.faultAt(1, TWO + "way a b ^$");
        Texts.faultAt(2, "village ^; $");
        Texts.faultAt(3, "village a;village ^a $");
        Texts.faultAt(4, TWO + "way a b ^0 $");
        Texts.faultAt(5, "way ^a $");
        Texts.faultAt(3, TWO + "way a ^a 0;");
        Texts.faultAt(3, TWO + "way a b 1;way b ^a 0;");
        Texts.faultAt(5, TWO + "way ^x x 0;");
        Texts.faultAt(5, TWO + "way a ^x 0;");
        Texts.faultAt(5, TWO + "bier x from ^y to y on 61;");
        Texts.faultAt(3, TWO + "bier x from a to ^a on 61 holds 10;");
        Texts.faultAt(4, TWO + "bier x from a to b on ^61 holds 10;");
        Texts.faultAt(3, TWO + "bier x from a to b on 1;bier ^x from x to x on 61;");
        Texts.faultAt(3, TWO + "letter p at a to b;letter ^p at x to x;");
        Texts.faultAt(4, TWO + "letter p at a to b by ^201 worth 10;");
        Texts.faultAt(4, "winter ^201 to 0;");
        Texts.faultAt(4, "winter 5 to ^4 5");
        Texts.faultAt(2, TWO + "way a ^1 b;");
        Texts.faultAt(2, TWO + "way a b ^a;");
        Texts.faultAt(2, "wait 1;^wait $");
        Texts.faultAt(2, "wait ^; wait");
    }

    private static void waits(String wait, int days) {
        FuneralPost x = Check.told("village a;village b;way a b 5;bier x from a to b on 0;wait " + wait + ";");
        x.day();
        Check.due("wait " + wait + ": stands", x.bier(0, 0), days == 0 ? 2 : 1);
        Check.due("wait " + wait + ": till", x.bier(0, 2), days == 0 ? 5 : days);
    }

    public static void main(String[] args) {
        sixteenHundredBytes();
        twentyBytesHaveRoomOrNot();
        eachByteHasItsPlace();
        endKeepsTheFirst();
        everyByte();
        words();
        numbers();
        asLongAsCanBe();
        wordsAreNoNames();
        countsOfEachSort();
        ways();
        biers();
        letters();
        numberedAsTold();
        winters();
        units();
        within();
        grammar();
        everyPlaceOfALine();
        whichFaultIsFirst();
        Check.finish();
    }
}
