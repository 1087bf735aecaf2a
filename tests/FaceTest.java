import java.lang.reflect.Field;
import java.lang.reflect.Member;
import java.lang.reflect.Method;
import java.lang.reflect.Modifier;
import java.util.TreeSet;

/** The public face is that of the document, and nothing more. Promise 1: a new object. */
public final class FaceTest {
    private static final String[] FACE = {
        "int feed(int,int,int,int,int)", "int end(int)", "int land()", "int fault(int)", "int bier(int,int)",
        "int letter(int,int)", "int village(int,int)", "int far(int,int)", "int day()", "int post(int,int)",
        "boolean hand(int,int)", "int take(int)", "int close(int)", "boolean undo()", "boolean redo()",
        "int comes(int)", "int late()", "int worth()", "int stuck()", "int meets(int,int,int)", "int buried(int)",
        "int swap(int,int,int)", "int cover(int,int)", "int soon(int,int)", "int heard(int)", "int deaf(int)",
        "int bars(int,int,int)", "int trace(int,int)", "int lies(int)", "int had(int,boolean)",
        "boolean untell(int)", "int later(int)", "int fit(int,int)", "int ask(int,int,int)", "int image(int)",
        "int back(int)", "int about(int)"
    };

    private static boolean isHidden(Member member) {
        return Modifier.isPrivate(member.getModifiers());
    }

    private static String told(Method method) {
        StringBuilder text = new StringBuilder();
        text.append(method.getReturnType()).append(' ').append(method.getName()).append('(');
        for (Class<?> type : method.getParameterTypes()) {
            text.append(text.charAt(text.length() - 1) == '(' ? "" : ",").append(type);
        }
        return text.append(')').toString();
    }

    private static void faceIsThatOfTheDocument() throws Exception {
        TreeSet<String> open = new TreeSet<>();
        TreeSet<String> openNames = new TreeSet<>();
        for (Method method : FuneralPost.class.getDeclaredMethods()) {
            if (!isHidden(method)) {
                open.add(told(method));
                openNames.add(method.getName());
            }
        }
        TreeSet<String> due = new TreeSet<>(java.util.Arrays.asList(FACE));
        Check.due("methods but " + due + ": " + open, open.equals(due), true);
        for (Method method : FuneralPost.class.getDeclaredMethods()) {
            boolean shared = isHidden(method) && openNames.contains(method.getName());
            Check.due("a private method is named " + method.getName(), shared, false);
        }
        for (Field field : FuneralPost.class.getDeclaredFields()) {
            Check.due("field " + field.getName() + " is hidden", isHidden(field), !field.getName().equals("NONE"));
        }
        Check.due("constructors", FuneralPost.class.getDeclaredConstructors().length, 1);
        Check.due("public constructors", FuneralPost.class.getConstructors().length, 1);
        int modifiers = FuneralPost.class.getModifiers();
        Check.due("public final", Modifier.isPublic(modifiers) && Modifier.isFinal(modifiers), true);
        Check.due("NONE", FuneralPost.NONE, -1);
        Check.due("NONE is int", FuneralPost.class.getField("NONE").getType() == int.class, true);
    }

    private static void newObjectHasAnEmptyLand() {
        FuneralPost x = new FuneralPost();
        for (int what = -1; what <= 14; what++) {
            Check.due("about(" + what + ")", x.about(what), what < 0 || what > 13 ? -1 : 0);
        }
        Check.due("fault(0)", x.fault(0), 0);
        Check.due("fault(1)", x.fault(1), -1);
        Check.due("bier", x.bier(0, 0), -2);
        Check.due("letter", x.letter(0, 0), -2);
        Check.due("village", x.village(0, 0), -1);
        Check.due("far", x.far(0, 0), -1);
        Check.due("undo", x.undo(), false);
        Check.due("redo", x.redo(), false);
        Check.due("late", x.late(), 0);
        Check.due("worth", x.worth(), 0);
        Check.due("stuck", x.stuck(), 0);
        Check.due("cover(0, 0)", x.cover(0, 0), 0);
        Check.due("cover(0, 1)", x.cover(0, 1), 0);
        Check.due("cover(1, 1)", x.cover(1, 1), -1);
        Check.due("fit", x.fit(0, 0), -1);
        Check.due("ask", x.ask(0, 0, 0), -1);
        Check.due("lies", x.lies(0), -1);
        Check.due("back", x.back(0), -1);
        Check.due("image", x.image(0), 0);
        Check.due("back", x.back(0), 0);
        Check.due("day", x.day(), 0);
        Check.due("about(7)", x.about(7), 1);
        Check.due("undo", x.undo(), true);
        Check.due("about(8)", x.about(8), 1);
    }

    public static void main(String[] args) throws Exception {
        faceIsThatOfTheDocument();
        newObjectHasAnEmptyLand();
        Check.finish();
    }
}
