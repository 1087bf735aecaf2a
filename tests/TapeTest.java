/** Promises 2 to 5: feed, end, land, fault; what a land may be as a text. */
public final class TapeTest {
    private static final String TWO = "village a;village b;";
    private static final String THREE = TWO + "village c;";

    private static void feedPutsTwentyBytes() {
        FuneralPost x = new FuneralPost();
        for (int i = 1; i <= 80; i++) {
            Check.due("feed " + i, x.feed(i, -i, 0, -1, 1), 20 * i);
        }
        Check.due("feed beyond", x.feed(1, 2, 3, 4, 5), -1);
        Check.due("about(11)", x.about(11), 1600);
        Check.due("end(1581)", x.end(1581), 1581);
        Check.due("feed beyond, from 1581", x.feed(1, 2, 3, 4, 5), -1);
        Check.due("about(11)", x.about(11), 1581);
        Check.due("end(1580)", x.end(1580), 1580);
        Check.due("feed to the brim", x.feed(1, 2, 3, 4, 5), 1600);
        Check.due("land", x.land(), -1);
        Check.due("about(11)", x.about(11), 0);
    }

    private static void bytesComeHighestFirst() {
        FuneralPost x = new FuneralPost();
        /* "village a;  village " */
        x.feed(0x76696c6c, 0x61676520, 0x613b2020, 0x76696c6c, 0x61676520);
        x.feed(0x623b2020, 0x20202020, 0x20200a0a, 0x0a0a0a0a, 0x20202020);
        Check.due("land", x.land(), 0);
        Check.due("about(1)", x.about(1), 2);
    }

    private static void endCutsTheTape() {
        FuneralPost x = new FuneralPost();
        Check.due("end(0)", x.end(0), 0);
        Check.due("end(1)", x.end(1), -1);
        x.feed(0, 0, 0, 0, 0);
        Check.due("end(-1)", x.end(-1), -1);
        Check.due("end(21)", x.end(21), -1);
        Check.due("end(min)", x.end(Integer.MIN_VALUE), -1);
        Check.due("end(max)", x.end(Integer.MAX_VALUE), -1);
        Check.due("about(11)", x.about(11), 20);
        Check.due("end(20)", x.end(20), 20);
        Check.due("end(7)", x.end(7), 7);
        Check.due("end(8)", x.end(8), -1);
        Check.due("feed", x.feed(0, 0, 0, 0, 0), 27);
        Check.due("end(0)", x.end(0), 0);
        Check.due("land of nothing", x.land(), 0);
    }

    private static void landTellsHowManyLetters() {
        FuneralPost x = new FuneralPost();
        Check.due("land", Check.land(x, TWO + "letter a at a to b;letter b at b to a;"), 2);
        Check.due("about(0)", x.about(0), 2);
        Check.due("about(11)", x.about(11), 0);
        Check.due("empty land", Check.land(x, ""), 0);
        Check.due("about(1)", x.about(1), 0);
        Check.due("blanks alone", Check.land(x, " \n "), 0);
    }

    private static void landBeginsAnew() {
        FuneralPost x = Check.told(TWO + "way a b 1;bier x from a to b on 0;letter p at a to b;wait 1+2;winter 5 to 9;");
        Check.due("image", x.image(0), 0);
        x.day();
        x.close(0);
        x.undo();
        Check.due("had", x.had(0, true), 0);
        Check.due("later", x.later(7), 7);
        x.post(1, 0);
        x.post(0, 1);
        x.undo();
        Check.due("about(7)", x.about(7), 2);
        Check.due("about(8)", x.about(8), 1);
        Check.due("a fault", Check.land(x, "village"), -1);
        Check.due("units stay", x.about(12), 2);
        Check.due("villages stay", x.about(1), 2);
        Check.due("the day stays", x.about(4), 1);
        Check.due("hads stay", x.about(9), 1);
        Check.due("acts stay", x.about(7), 2);
        Check.due("undone acts stay", x.about(8), 1);
        Check.due("the tape is empty", x.about(11), 0);
        Check.due("image stays", x.back(0), 0);
        Check.due("trace", x.trace(0, 1), 4);
        Check.due("lies", x.about(13), 1);
        Check.due("a fault lets lie", Check.land(x, "village"), -1);
        Check.due("lies", x.about(13), 1);
        Check.due("land", Check.land(x, TWO), 0);
        int[] due = {0, 2, 0, 0, 0, 0, 0, 0, 0, 0, 7, 0, 0, 0};
        for (int what = 0; what < due.length; what++) {
            Check.due("about(" + what + ")", x.about(what), due[what]);
        }
        Check.due("boxes are empty", x.back(0), -1);
        Check.due("nothing lies", x.lies(0), -1);
        Check.due("nothing to undo", x.undo(), false);
        Check.due("nothing to do again", x.redo(), false);
    }

    /** What an earlier text told, a good or a bad one, is not told by a later one. */
    private static void nothingIsLeftOfEarlierLands() {
        FuneralPost x = new FuneralPost();
        String start = TWO + "way a b 1;bier x from a to b on 0;letter p at a to b;";
        Check.due("land", Check.land(x, start + "wait 1+2;winter 0 to 100;"), 1);
        Check.days(x, 2);
        Check.due("bad", Check.land(x, start + "bier y from a to b on 0;wait 1+2+3;winter 0 to 50"), -1);
        Check.due("land", Check.land(x, start), 1);
        for (int i = 0; i < 3; i++) {
            Check.due("about(12)", x.about(12), 0);
            Check.due("about(3)", x.about(3), 1);
            Check.due("bier(0, 0)", x.bier(0, 0), 0);
            Check.due("bier(0, 1)", x.bier(0, 1), 0);
            Check.due("bier(0, 3)", x.bier(0, 3), 0);
            Check.due("letter(0, 6)", x.letter(0, 6), 0);
            Check.due("letter(0, 2)", x.letter(0, 2), -1);
            Check.due("comes(0)", x.comes(0), 1);
            x.close(0);
            x.undo();
            x.close(0);
            Check.due("land", Check.land(x, start), 1);
            Check.due("far(0, 1)", x.far(0, 1), 1);
            Check.days(x, 2);
            Check.due("land", Check.land(x, start), 1);
        }
        for (int wait = 1; wait < 5; wait++) {
            Check.due("land", Check.land(x, start + "winter 90 to 99;wait " + wait + ";"), 1);
            Check.due("about(12)", x.about(12), 1);
            Check.due("comes(0)", x.comes(0), 1 + wait);
        }
    }

    private static void faultAnswersOfTheLatest() {
        FuneralPost x = new FuneralPost();
        Check.land(x, "village a;;");
        Check.due("fault(0)", x.fault(0), 2);
        Check.due("fault(1)", x.fault(1), 10);
        Check.due("fault(2)", x.fault(2), -1);
        Check.due("fault(-1)", x.fault(-1), -1);
        Check.feed(x, "village a;");
        Check.due("fault(0) till the next", x.fault(0), 2);
        x.land();
        Check.due("fault(0)", x.fault(0), 0);
        Check.due("fault(1)", x.fault(1), -1);
    }

    private static void tokens() {
        Texts.faultAt(1, "^$");
        Texts.faultAt(1, "^A");
        Texts.faultAt(1, "village a;^\t");
        Texts.faultAt(1, "^\r");
        Texts.faultAt(1, "village ^abcdefghi;");
        Texts.faultAt(1, "^villagesa a;");
        Texts.good("village abcdefgh;");
        Texts.faultAt(1, "wait ^12345;");
        Texts.faultAt(1, "wait ^1a;");
        Texts.faultAt(1, "wait ^9999day;");
        Texts.good("wait 9999;");
        Texts.good("wait 0000;");
        Texts.good("wait 1<2;wait".substring(0, 9));
        Texts.good(TWO + "way a b1;");
        Texts.good(TWO + "way\na\nb\n1\n;\n");
        Texts.good("village a;village\n\nb ; way a b 0009 ;");
        Texts.good(TWO + "bier x from a to b on0;");
        Texts.faultAt(1, TWO + "bier x from a to b on ^0holds 1;");
        Texts.faultAt(1, "village ^\u00e9;");
        Texts.faultAt(1, "wait 1^!2;");
        Texts.good("wait(1)+(2)*day/holds%ways-rest;");
        Texts.faultAt(2, "^12;");
        Texts.faultAt(2, "village ^1;");
        Texts.faultAt(2, "village a^");
        Texts.faultAt(2, "village^");
        Texts.faultAt(2, "village ^;");
    }

    private static void names() {
        String[] words = {"village", "way", "bier", "letter", "wait", "winter", "from", "to", "on", "holds", "at",
            "by", "worth", "or", "and", "not", "day", "ways", "rest"};
        for (String word : words) {
            Texts.faultAt(2, "village ^" + word + ";");
            Texts.faultAt(2, TWO + "bier ^" + word + " from a to b on 1;");
            Texts.faultAt(2, TWO + "letter ^" + word + " at a to b;");
            Texts.faultAt(2, TWO + "way ^" + word + " b 1;");
        }
        Texts.good("village days;village e;village sum;village wayss;village la;");
        Texts.good(TWO + "bier a from a to b on 1;letter a at a to b;");
        Texts.faultAt(3, "village a;village ^a;");
        Texts.faultAt(3, TWO + "bier x from a to b on 1;bier ^x from b to a on 1;");
        Texts.faultAt(3, TWO + "letter x at a to b;letter ^x at a to b;");
        Texts.faultAt(3, TWO + "bier x from a to ^a on 1;");
        Texts.faultAt(3, TWO + "letter x at b to ^b;");
        Texts.faultAt(3, TWO + "way b ^b 1;");
        Texts.faultAt(3, TWO + "way a b 1;way a ^b 1;");
        Texts.faultAt(3, TWO + "way a b 1;way b ^a 10;");
        Texts.faultAt(5, "way ^a b 1;");
        Texts.faultAt(5, "village a;way a ^b 1;village b;");
        Texts.faultAt(5, "village a;way ^b a 1;");
        Texts.faultAt(5, TWO + "bier x from ^x to b on 1;");
        Texts.faultAt(5, TWO + "bier x from a to ^x on 1;");
        Texts.faultAt(5, TWO + "letter x at ^c to b;");
        Texts.faultAt(5, TWO + "letter x at a to ^c;");
    }

    private static void numbers() {
        Texts.faultAt(4, TWO + "way a b ^0;");
        Texts.faultAt(4, TWO + "way a b ^10;");
        Texts.good(TWO + "way a b 9;");
        Texts.faultAt(2, TWO + "way a b^;");
        Texts.faultAt(4, TWO + "bier x from a to b on ^61;");
        Texts.good(TWO + "bier x from a to b on 60 holds 9;");
        Texts.faultAt(4, TWO + "bier x from a to b on 60 holds ^0;");
        Texts.faultAt(4, TWO + "bier x from a to b on 60 holds ^10;");
        Texts.faultAt(2, TWO + "bier x from a to b^;");
        Texts.faultAt(2, TWO + "bier x from a to b on 1 ^by 3;");
        Texts.faultAt(4, TWO + "letter x at a to b by ^201;");
        Texts.good(TWO + "letter x at a to b by 200 worth 9;letter y at a to b by 0 worth 1;");
        Texts.faultAt(4, TWO + "letter x at a to b worth ^10;");
        Texts.faultAt(4, TWO + "letter x at a to b by 1 worth ^0;");
        Texts.faultAt(2, TWO + "letter x at a to b worth 1 ^by 1;");
        Texts.faultAt(2, TWO + "letter x at a to b by 1 ^by 1;");
        Texts.faultAt(4, "winter ^201 to 3;");
        Texts.faultAt(4, "winter 1 to ^201;");
        Texts.faultAt(4, "winter 7 to ^6;");
        Texts.good("winter 7 to 7;");
        Texts.good("winter 0 to 200;");
        Texts.faultAt(2, "winter 7 ^8;");
        Texts.faultAt(2, "winter day".replace("day", "^day"));
    }

    private static void tooMany() {
        Texts.good("village a;village b;village c;village d;village e;village f;village g;");
        Texts.faultAt(2, "village a;village b;village c;village d;village e;village f;village g;^village a;");
        String biers = "";
        String letters = "";
        for (char c = 'a'; c <= 'f'; c++) {
            biers += "bier " + c + " from a to b on 1;";
        }
        for (char c = 'a'; c <= 'h'; c++) {
            letters += "letter " + c + " at a to b;";
        }
        Texts.good(TWO + biers + letters);
        Texts.faultAt(2, TWO + biers + letters + "^bier");
        Texts.faultAt(2, TWO + biers + letters + "^letter $");
        StringBuilder ways = new StringBuilder("village a;village b;village c;village d;village e;village f;");
        int count = 0;
        for (char c = 'a'; c <= 'f'; c++) {
            for (char d = 'a'; d < c; d++) {
                if (count < 12) {
                    ways.append("way ").append(c).append(' ').append(d).append(" 1;");
                }
                count++;
            }
        }
        Texts.good(ways.toString());
        FuneralPost x = Check.told(ways.toString());
        Check.due("about(2)", x.about(2), 12);
        Texts.faultAt(2, ways + "^way f e 1;");
        Texts.faultAt(2, "wait 1;^wait 1;");
        Texts.faultAt(2, "winter 1 to 1;^winter 1 to 1;");
        Texts.faultAt(2, "village a;^a;");
        Texts.faultAt(2, "^from;");
        Texts.faultAt(2, THREE + "^;");
    }

    private static void formulas() {
        Texts.faultAt(2, "wait ^;");
        Texts.faultAt(2, "wait^");
        Texts.faultAt(2, "wait 1+^;");
        Texts.faultAt(2, "wait ^+1;");
        Texts.faultAt(2, "wait 1 ^2;");
        Texts.faultAt(2, "wait (1^;");
        Texts.faultAt(2, "wait 1^);");
        Texts.faultAt(2, "wait (^);");
        Texts.faultAt(2, "wait 1<2^<3;");
        Texts.faultAt(2, "wait 1=2^=3;");
        Texts.good("wait (1<2)<3;");
        Texts.good("wait 1<2 and 2>1 or not 3=3;");
        Texts.faultAt(2, "wait 1+^not 1;");
        Texts.faultAt(2, "wait 1<^not 1;");
        Texts.faultAt(2, "wait ^a;");
        Texts.faultAt(2, "wait ^at;");
        Texts.good("wait (((((((1)))))));");
        Texts.faultAt(2, "wait (((((((^(1))))))));");
        Texts.faultAt(2, "wait (((((((not ".replace("not ", "^not ") + "1)))))));");
        Texts.good("wait not not not not not not not 1;");
        Texts.faultAt(2, "wait not not not not not not not ^not 1;");
        Texts.faultAt(2, "wait not not not not not not not ^(1);");
        Texts.good("wait not not not not ( ( ( 1 ) ) );");
        Texts.faultAt(2, "wait not ( not ( not ( not ^( 1))));");
        Texts.good("wait not ( not ( not ( not 1)));");
        Texts.faultAt(2, "wait not ( not ( not ( not ^(1+1))));");
        StringBuilder sum = new StringBuilder("wait 1");
        for (int i = 1; i < 30; i++) {
            sum.append("+1");
        }
        Texts.good(sum + ";");
        Check.due("about(12)", Check.told(sum + ";").about(12), 30);
        Texts.faultAt(2, sum + "+^1;");
        Texts.faultAt(1, sum + "+^$;");
        /* ( e ) is a unit, too. */
        Texts.faultAt(2, sum.toString().replace("wait 1", "wait (1)") .replaceAll("1$", "^1") + ";");
        Check.due("about(12)", Check.told("wait (1)+(2);").about(12), 4);
        Check.due("about(12)", Check.told("wait not not 7;").about(12), 1);
        Check.due("about(12)", Check.told("village a;").about(12), 0);
    }

    public static void main(String[] args) {
        feedPutsTwentyBytes();
        bytesComeHighestFirst();
        endCutsTheTape();
        landTellsHowManyLetters();
        landBeginsAnew();
        nothingIsLeftOfEarlierLands();
        faultAnswersOfTheLatest();
        tokens();
        names();
        numbers();
        tooMany();
        formulas();
        Check.finish();
    }
}
