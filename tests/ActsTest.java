/** Promises 11 to 16 and 36 to 38: posted, handed, taken out, closed, undone; images; about. */
public final class ActsTest {
    private static final String LAND = "village a;village b;village c;way a b 2;way b c 2;"
            + "bier x from a to c on 0 holds 1;bier y from b to c on 0 holds 2;letter p at a to b;letter q at b to a;wait 2;";

    private static void post() {
        FuneralPost x = Check.told(LAND);
        Check.due("both are one", x.post(1, 1), -1);
        for (int wrong : new int[] {-1, 3, 7, Integer.MIN_VALUE, Integer.MAX_VALUE}) {
            Check.due("post(" + wrong + ", 0)", x.post(wrong, 0), -1);
            Check.due("post(0, " + wrong + ")", x.post(0, wrong), -1);
        }
        Check.due("no act", x.about(7), 0);
        Check.due("post", x.post(2, 0), 2);
        int[] want = {2, -1, -1, 0, 200, 1, 0};
        for (int what = 0; what < want.length; what++) {
            Check.due("letter(2, " + what + ")", x.letter(2, what), want[what]);
        }
        for (int i = 3; i < 10; i++) {
            Check.due("post", x.post(0, 1), i);
        }
        Check.due("an eleventh", x.post(0, 1), -1);
        Check.due("about(0)", x.about(0), 10);
        Check.due("undo", x.undo(), true);
        Check.due("about(0)", x.about(0), 9);
        Check.due("letter(9, 0)", x.letter(9, 0), -2);
        Check.due("redo", x.redo(), true);
        Check.due("letter(9, 0)", x.letter(9, 0), 0);
    }

    private static void hand() {
        FuneralPost x = Check.told(LAND);
        Check.due("not started", x.hand(0, 0), false);
        x.day();
        Check.due("in no pile", x.hand(0, 0), false);
        Check.due("nobody stands there", x.hand(1, 0), false);
        for (int wrong : new int[] {-1, 2, 6, 31, 32, Integer.MIN_VALUE, Integer.MAX_VALUE}) {
            Check.due("hand(" + wrong + ", 1)", x.hand(wrong, 1), false);
            Check.due("hand(1, " + wrong + ")", x.hand(1, wrong), false);
        }
        Check.due("no act", x.about(7), 1);
        Check.due("hand", x.hand(1, 1), true);
        Check.due("letter(1, 0)", x.letter(1, 0), -1);
        Check.due("letter(1, 1)", x.letter(1, 1), 1);
        Check.due("letter(1, 6)", x.letter(1, 6), 1);
        Check.due("bier(1, 3)", x.bier(1, 3), 1);
        Check.due("about(7)", x.about(7), 2);
        Check.due("in a bier already", x.hand(1, 1), false);
        x.post(1, 2);
        x.post(1, 2);
        Check.due("hand", x.hand(2, 1), true);
        Check.due("no room", x.hand(3, 1), false);
        Check.days(x, 5);
        Check.due("bier(1, 0)", x.bier(1, 0), 3);
        Check.due("the buried take nothing", x.post(2, 0), 4);
        Check.due("the buried take nothing", x.hand(4, 1), false);
        Check.due("who is home is in no pile", x.hand(2, 0), false);
    }

    private static void take() {
        FuneralPost x = Check.told(LAND);
        Check.due("in a pile", x.take(0), -1);
        x.day();
        for (int wrong : new int[] {-1, 2, 10, Integer.MIN_VALUE, Integer.MAX_VALUE}) {
            Check.due("take(" + wrong + ")", x.take(wrong), -1);
        }
        Check.due("about(7)", x.about(7), 1);
        Check.due("take", x.take(0), 0);
        Check.due("letter(0, 0)", x.letter(0, 0), 0);
        Check.due("letter(0, 1)", x.letter(0, 1), -1);
        Check.due("letter(0, 6)", x.letter(0, 6), 1);
        Check.due("bier(0, 3)", x.bier(0, 3), 0);
        Check.due("take again", x.take(0), -1);
        Check.due("hand", x.hand(0, 0), true);
        Check.due("letter(0, 6)", x.letter(0, 6), 2);
        Check.days(x, 2);
        Check.due("bier(0, 0)", x.bier(0, 0), 2);
        Check.due("on a way", x.take(0), -1);
        Check.due("on a way", x.letter(0, 1), 0);
        Check.days(x, 2);
        Check.due("home", x.take(0), -1);
        Check.due("home", x.letter(0, 2), 4);
    }

    private static void close() {
        FuneralPost x = Check.told(LAND);
        for (int wrong : new int[] {-1, 2, 12, 32, Integer.MIN_VALUE, Integer.MAX_VALUE}) {
            Check.due("close(" + wrong + ")", x.close(wrong), -1);
        }
        Check.due("no act", x.about(7), 0);
        Check.due("close(1)", x.close(1), 1);
        Check.due("about(5)", x.about(5), 2);
        Check.due("far(0, 2)", x.far(0, 2), 1000);
        Check.due("close(0)", x.close(0), 1);
        Check.due("about(5)", x.about(5), 3);
        Check.due("open again", x.close(1), 0);
        Check.due("about(5)", x.about(5), 1);
        Check.due("far(1, 2)", x.far(1, 2), 2);
        Check.due("far(0, 2)", x.far(0, 2), 1000);
    }

    private static void undoAndRedo() {
        FuneralPost x = Check.told(LAND);
        Check.due("undo", x.undo(), false);
        Check.due("redo", x.redo(), false);
        x.day();
        x.close(0);
        x.take(0);
        Check.due("about(7)", x.about(7), 3);
        Check.due("undo", x.undo(), true);
        Check.due("letter(0, 1)", x.letter(0, 1), 0);
        Check.due("undo", x.undo(), true);
        Check.due("far(0, 1)", x.far(0, 1), 2);
        Check.due("bier(0, 5)", x.bier(0, 5), 7);
        Check.due("undo", x.undo(), true);
        Check.due("about(4)", x.about(4), 0);
        Check.due("bier(0, 0)", x.bier(0, 0), 0);
        Check.due("undo", x.undo(), false);
        Check.due("about(8)", x.about(8), 3);
        Check.due("redo", x.redo(), true);
        Check.due("redo", x.redo(), true);
        Check.due("far(0, 1)", x.far(0, 1), 1000);
        /* What does nothing is no act. */
        x.post(0, 0);
        x.hand(9, 9);
        x.take(9);
        x.close(9);
        x.image(0);
        x.image(9);
        x.back(9);
        x.had(0, true);
        Check.due("about(8)", x.about(8), 1);
        Check.due("redo", x.redo(), true);
        Check.due("letter(0, 0)", x.letter(0, 0), 0);
        Check.due("redo", x.redo(), false);
        x.undo();
        x.post(0, 1);
        Check.due("another act", x.about(8), 0);
        Check.due("redo", x.redo(), false);
        Check.due("about(7)", x.about(7), 3);
        Check.due("a had is no act", x.about(9), 1);
    }

    private static void fortyActsAreKept() {
        FuneralPost x = Check.told(LAND);
        for (int i = 0; i < 43; i++) {
            x.day();
            Check.due("about(7)", x.about(7), Math.min(i + 1, 40));
        }
        for (int i = 0; i < 40; i++) {
            Check.due("about(8)", x.about(8), i);
            Check.due("undo " + i, x.undo(), true);
        }
        Check.due("the oldest are gone", x.undo(), false);
        Check.due("about(4)", x.about(4), 3);
        for (int i = 0; i < 40; i++) {
            Check.due("redo " + i, x.redo(), true);
        }
        Check.due("redo", x.redo(), false);
        Check.due("about(4)", x.about(4), 43);
        for (int i = 0; i < 39; i++) {
            x.undo();
        }
        x.close(0);
        Check.due("about(7)", x.about(7), 2);
        x.undo();
        x.undo();
        Check.due("undo", x.undo(), false);
        Check.due("about(4)", x.about(4), 3);
    }

    private static void images() {
        FuneralPost x = Check.told(LAND);
        for (int wrong : new int[] {-1, 3, Integer.MIN_VALUE, Integer.MAX_VALUE}) {
            Check.due("image(" + wrong + ")", x.image(wrong), -1);
            Check.due("back(" + wrong + ")", x.back(wrong), -1);
        }
        Check.due("back(0)", x.back(0), -1);
        Check.due("image(0)", x.image(0), 0);
        x.day();
        x.close(1);
        x.post(1, 0);
        x.had(1, false);
        x.later(5);
        Check.due("image(2)", x.image(2), 1);
        Check.days(x, 4);
        Check.due("back(1)", x.back(1), -1);
        Check.due("about(7)", x.about(7), 7);
        Check.due("back(2)", x.back(2), 1);
        Check.due("about(7)", x.about(7), 0);
        Check.due("undo", x.undo(), false);
        Check.due("about(5)", x.about(5), 2);
        Check.due("far(1, 2)", x.far(1, 2), 1000);
        Check.due("letter(2, 0)", x.letter(2, 0), 1);
        Check.due("letter(0, 1)", x.letter(0, 1), 0);
        x.day();
        x.undo();
        Check.due("about(8)", x.about(8), 1);
        Check.due("back(0)", x.back(0), 0);
        Check.due("about(8)", x.about(8), 0);
        Check.due("redo", x.redo(), false);
        Check.due("about(0)", x.about(0), 2);
        Check.due("far(1, 2)", x.far(1, 2), 2);
        Check.due("hads stay", x.about(9), 1);
        Check.due("the time stays", x.about(10), 5);
        x.day();
        Check.due("gone on from", x.back(0), 0);
        Check.due("again", x.bier(0, 0), 0);
        Check.due("image(0) anew", x.image(2), 0);
        x.day();
        Check.due("back(2)", x.back(2), 0);
    }

    private static void about() {
        FuneralPost x = Check.told(LAND.replace("wait 2", "wait 2+day*ways"));
        Check.days(x, 3);
        x.close(1);
        x.undo();
        x.close(0);
        x.undo();
        x.had(0, true);
        x.had(0, false);
        x.untell(0);
        x.later(9);
        x.feed(0, 0, 0, 0, 0);
        x.trace(1, 2);
        int[] want = {2, 3, 2, 2, 3, 0, 0, 3, 1, 2, 9, 20, 3, 1};
        for (int what = 0; what < want.length; what++) {
            Check.due("about(" + what + ")", x.about(what), want[what]);
        }
        for (int wrong : new int[] {-1, 14, Integer.MIN_VALUE, Integer.MAX_VALUE}) {
            Check.due("about(" + wrong + ")", x.about(wrong), -1);
        }
        x.redo();
        Check.due("about(5)", x.about(5), 1);
        Check.days(x, 20);
        x.close(0);
        Check.days(x, 20);
        Check.due("about(6)", x.about(6), 1);
    }

    public static void main(String[] args) {
        post();
        hand();
        take();
        close();
        undoAndRedo();
        fortyActsAreKept();
        images();
        about();
        Check.finish();
    }
}
