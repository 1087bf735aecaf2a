/** All that an object answers, as a text: two objects of which all is alike have the same one. */
public final class Whole {
    private Whole() {
    }

    /** Everything; what can be undone is undone and what is in the boxes is gone back to, so it is asked last. */
    static String of(FuneralPost x) {
        return tape(x) + state(x) + lore(x) + lying(x) + acts(x) + boxes(x);
    }

    static String tape(FuneralPost x) {
        StringBuilder s = new StringBuilder("tape");
        return s.append(' ').append(x.about(11)).append(" fault ").append(x.fault(0)).append(' ').append(x.fault(1)).toString();
    }

    /** BIERS, LETTERS, WAYS, the DAY, and some of what comes of them. */
    static String state(FuneralPost x) {
        StringBuilder s = new StringBuilder("\nstate");
        for (int what = 0; what <= 6; what++) {
            s.append(' ').append(x.about(what));
        }
        s.append(' ').append(x.about(12));
        for (int b = 0; b < x.about(3); b++) {
            s.append("\nbier ").append(b);
            for (int what = 0; what <= 5; what++) {
                s.append(' ').append(x.bier(b, what));
            }
        }
        for (int i = 0; i < x.about(0); i++) {
            s.append("\nletter ").append(i);
            for (int what = 0; what <= 6; what++) {
                s.append(' ').append(x.letter(i, what));
            }
        }
        for (int v = 0; v < x.about(1); v++) {
            s.append("\nvillage ").append(v);
            for (int what = 0; what <= 2; what++) {
                s.append(' ').append(x.village(v, what));
            }
            for (int u = 0; u < v; u++) {
                s.append(' ').append(x.far(v, u));
            }
        }
        s.append("\nlate ").append(x.late()).append(" worth ").append(x.worth()).append(" stuck ").append(x.stuck());
        return s.toString();
    }

    static String lore(FuneralPost x) {
        StringBuilder s = new StringBuilder("\nlore ");
        s.append(x.about(9)).append(' ').append(x.about(10));
        for (int k : new int[] {0, x.about(10), 200000}) {
            for (int goal = 0; goal < x.about(1); goal++) {
                s.append(' ').append(x.fit(goal, k));
            }
        }
        return s.toString();
    }

    static String lying(FuneralPost x) {
        StringBuilder s = new StringBuilder("\nlies ");
        s.append(x.about(13));
        for (int i = 0; i < 4; i++) {
            s.append(' ').append(x.lies(i));
        }
        return s.toString();
    }

    /** What can be done again and what can be undone, each with what it leads to; all of it is undone then. */
    static String acts(FuneralPost x) {
        StringBuilder s = new StringBuilder("\nacts ");
        s.append(x.about(7)).append(' ').append(x.about(8));
        for (int i = 0; i < 50 && x.redo(); i++) {
            brief(s.append("\nredone"), x);
        }
        for (int i = 0; i < 50 && x.undo(); i++) {
            brief(s.append("\nundone"), x);
        }
        return s.append(' ').append(x.about(7)).append(' ').append(x.about(8)).toString();
    }

    static String boxes(FuneralPost x) {
        StringBuilder s = new StringBuilder("\nboxes");
        for (int box = 0; box < 3; box++) {
            brief(s.append('\n').append(x.back(box)), x);
        }
        return s.toString();
    }

    private static void brief(StringBuilder s, FuneralPost x) {
        s.append(' ').append(x.about(0)).append(' ').append(x.about(4)).append(' ').append(x.about(5));
        s.append(' ').append(x.village(0, 0)).append(' ').append(x.village(1, 0)).append(' ').append(x.bier(0, 3));
    }
}
