/** What every test needs: texts fed as bytes, answers compared, an exit code. */
public final class Check {
    private static int wrong = 0;
    private static int asked = 0;

    private Check() {
    }

    static void due(String call, long got, long want) {
        asked++;
        if (got != want) {
            wrong++;
            System.out.println(call + " answered " + got + ", due is " + want);
        }
    }

    static void due(String call, boolean got, boolean want) {
        due(call, got ? 1 : 0, want ? 1 : 0);
    }

    /** Puts a text on the empty tape, twenty bytes a call. */
    static void feed(FuneralPost x, String text) {
        for (int i = 0; i < text.length(); i += 20) {
            int[] fours = new int[5];
            for (int k = 0; k < 20; k++) {
                int sign = i + k < text.length() ? text.charAt(i + k) & 255 : 0;
                fours[k / 4] = fours[k / 4] << 8 | sign;
            }
            x.feed(fours[0], fours[1], fours[2], fours[3], fours[4]);
        }
        due("end(" + text.length() + ")", x.end(text.length()), text.length());
    }

    static int land(FuneralPost x, String text) {
        feed(x, text);
        return x.land();
    }

    static FuneralPost told(String text) {
        FuneralPost x = new FuneralPost();
        land(x, text);
        due("fault(0) of " + text, x.fault(0), 0);
        due("fault(1) of " + text, x.fault(1), -1);
        return x;
    }

    static void days(FuneralPost x, int count) {
        for (int i = 0; i < count; i++) {
            x.day();
        }
    }

    static void finish() {
        System.out.println(asked + " answers, " + wrong + " not as due");
        if (wrong != 0) {
            System.exit(1);
        }
    }
}
