import com.sun.management.ThreadMXBean;
import java.lang.management.ManagementFactory;
import java.lang.reflect.Constructor;
import java.lang.reflect.Field;
import java.lang.reflect.Method;
import java.lang.reflect.Modifier;
import java.util.Set;
import java.util.TreeSet;

/** What can be looked at of the class as it runs: the face, the constants, the room; its source: SourceRulesTest. */
public final class RulesTest {
    private static final Due DUE = new Due();
    private static final String[] FACE = {
        "int letter(int)", "int blank()", "int fault()", "int game()", "int judge(int,int)", "int as(int,int)",
        "int row(int,int)", "int tells(int,int,int)", "int seen(int,int)", "int show(int,int)",
        "int note(int,int,int)", "int strike()", "int forget()", "int hide(int)", "int swap(int,int)", "int left()",
        "int fits(int)", "int best(int,int)", "int rest(int,int,int)", "int howLong(int,int)", "int parts(int,int)",
        "int tries(int,int,int,int)", "int image()", "int restore()", "int count(int)", "long digest()"
    };

    public static void main(String[] args) {
        face();
        constants();
        room();
        DUE.end();
    }

    private static void face() {
        Class<?> face = JudgedRows.class;
        DUE.holds("public and final", Modifier.isPublic(face.getModifiers()) && Modifier.isFinal(face.getModifiers()));
        DUE.is("constructors", face.getDeclaredConstructors().length, 1);
        for (Constructor<?> each : face.getDeclaredConstructors()) {
            DUE.holds("constructor", Modifier.isPublic(each.getModifiers()) && each.getParameterCount() == 0);
        }
        Set<String> due = new TreeSet<>(Set.of(FACE));
        Set<String> open = new TreeSet<>();
        for (Method each : face.getDeclaredMethods()) {
            if (!Modifier.isPrivate(each.getModifiers())) {
                open.add(signature(each));
            }
        }
        DUE.holds("the face's methods and no others: " + open, open.equals(due));
    }

    private static String signature(Method method) {
        StringBuilder text = new StringBuilder(method.getReturnType() + " " + method.getName() + "(");
        for (Class<?> each : method.getParameterTypes()) {
            text.append(text.charAt(text.length() - 1) == '(' ? "" : ",").append(each);
        }
        return text.append(")").toString();
    }

    private static void constants() {
        Set<String> open = new TreeSet<>();
        for (Field each : JudgedRows.class.getDeclaredFields()) {
            if (!Modifier.isPrivate(each.getModifiers())) {
                open.add(each.getName());
            }
            if (Modifier.isStatic(each.getModifiers())) {
                DUE.holds("static is final: " + each, Modifier.isFinal(each.getModifiers()));
            }
        }
        DUE.holds("the face's constants and no others: " + open,
            open.equals(Set.of("NONE", "UNKNOWN", "OUTSIDE", "STATE", "FULL")));
        DUE.is("NONE", JudgedRows.NONE, -1);
        DUE.is("UNKNOWN", JudgedRows.UNKNOWN, -101);
        DUE.is("OUTSIDE", JudgedRows.OUTSIDE, -102);
        DUE.is("STATE", JudgedRows.STATE, -103);
        DUE.is("FULL", JudgedRows.FULL, -104);
    }

    /** All that is needed is made in the constructor: the dearest calls make nothing. */
    private static void room() {
        ThreadMXBean meter = (ThreadMXBean) ManagementFactory.getThreadMXBean();
        dearest(new JudgedRows());
        JudgedRows x = new JudgedRows();
        long id = Thread.currentThread().getId();
        long before = meter.getThreadAllocatedBytes(id);
        dearest(x);
        long made = meter.getThreadAllocatedBytes(id) - before;
        DUE.holds("calls make nothing: " + made + " bytes", made < 2048);
        before = meter.getThreadAllocatedBytes(id);
        x = new JudgedRows();
        made = meter.getThreadAllocatedBytes(id) - before;
        DUE.holds("an object is small: " + made + " bytes", made < 16384 && x.count(2) == 0);
    }

    private static void dearest(JudgedRows x) {
        for (int round = 0; round < 12; round++) {
            read(x, 3, round % 2 == 0 ? 6 : 4);
            for (int judge = 0; judge < 3; judge++) {
                x.show(17, judge);
                x.judge(judge, 3);
                x.judge(judge, 4);
                x.as(judge, 4);
                x.best(judge, 1);
                x.howLong(judge, 5);
                x.parts(judge, 0);
                x.tries(judge, 20, round, 0);
                x.rest(1, judge, 0);
            }
            x.image();
            x.fits(3);
            x.digest();
            x.restore();
        }
    }

    private static void read(JudgedRows x, int pegs, int colours) {
        x.letter('0' + pegs);
        x.letter('0' + colours);
        x.letter(';');
        x.letter('j');
        x.letter('s');
        x.letter('c');
        x.letter(';');
        for (int peg = 0; peg < pegs; peg++) {
            x.letter('b');
        }
        x.game();
    }
}
