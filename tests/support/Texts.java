/** Texts that are lands, and texts that are not. */
public final class Texts {
    /* Seven villages, twelve ways, six biers, eight letters, thirty units, a winter: all that there can be. */
    static final String FULL = "village a;village b;village c;village d;village e;village f;village g;"
            + "way a b 1;way b c 2;way c d 3;way d e 4;way e f 5;way f g 6;way a c 7;way b d 8;way c e 9;way d f 1;way e g 2;"
            + "way a g 9;"
            + "bier u from a to g on 0 holds 1;bier v from b to f on 1 holds 2;bier w from c to a on 2 holds 3;"
            + "bier x from d to b on 3;bier y from e to c on 4 holds 9;bier z from g to a on 60 holds 4;"
            + "letter p at a to g;letter q at b to g by 0;letter r at c to f worth 2;letter s at d to a by 20 worth 3;"
            + "letter t at e to b by 200 worth 9;letter u at f to c by 7 worth 1;letter v at g to d by 50;letter w at a to e worth 4;"
            + "winter 30 to 40;wait " + sum(30) + ";";

    private Texts() {
    }

    /** So many units, worth two days together. */
    static String sum(int units) {
        StringBuilder sum = new StringBuilder("2");
        for (int i = 1; i < units; i++) {
            sum.append("+0");
        }
        return sum.toString();
    }

    static String times(String text, int count) {
        StringBuilder all = new StringBuilder();
        for (int i = 0; i < count; i++) {
            all.append(text);
        }
        return all.toString();
    }

    /** The text with so many blanks at the sign _ that it has so many bytes. */
    static String padded(String text, int bytes) {
        int at = text.indexOf('_');
        return text.substring(0, at) + times(" ", bytes - text.length() + 1) + text.substring(at + 1);
    }

    static void fault(String text, int fault, int place) {
        FuneralPost x = new FuneralPost();
        Check.due("land() of " + text, Check.land(x, text), -1);
        Check.due("fault(0) of " + text, x.fault(0), fault);
        Check.due("fault(1) of " + text, x.fault(1), place);
    }

    static void good(String text) {
        FuneralPost x = new FuneralPost();
        Check.due("land() of " + text, Check.land(x, text) >= 0, true);
        Check.due("fault(0) of " + text, x.fault(0), 0);
        Check.due("fault(1) of " + text, x.fault(1), -1);
    }

    /** The fault is expected at the sign ^, which is no part of the text. */
    static void faultAt(int fault, String marked) {
        int place = marked.indexOf('^');
        fault(marked.substring(0, place) + marked.substring(place + 1), fault, place);
    }
}
