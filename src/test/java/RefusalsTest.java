import java.util.ArrayList;
import java.util.List;
import java.util.function.Supplier;

/**
 * Every call, in several states, with every mix of numbers at its bounds, just outside of them and far outside:
 * the first refusal as told is the answer, and a refused call changes nothing; what is inside is not refused.
 */
public final class RefusalsTest {
    private static final int NONE = Games.NONE, UNKNOWN = Games.UNKNOWN, OUTSIDE = Games.OUTSIDE;
    private static final int STATE = Games.STATE, FULL = Games.FULL, NOT_REFUSED = 0;
    // An object is good for 512 calls: a look takes three, making one and looking at its image less than a hundred.
    private static final int LOOKS_AN_OBJECT = 130;
    private static final Due DUE = new Due();

    private interface Call {
        int of(JudgedRows x, int[] a);
    }

    /** What is answered if an argument is not from the least to the most. */
    private record Bounds(int refusal, int least, int most) {
        boolean has(int number) {
            return number >= least && number <= most;
        }

        /** The last four would be inside for one who cuts a number down to fewer bits. */
        int[] looks() {
            return new int[] {
                least, most, least - 1, most + 1, Games.LEAST, Games.MOST,
                least + 128, least + 256, least + 65536, least + (1 << 30)
            };
        }
    }

    /** Late is what is answered though all arguments are inside, or NOT_REFUSED. */
    private record Rule(String name, Call call, int late, Bounds... bounds) {
        int due(int[] a) {
            for (int at = 0; at < a.length; at++) {
                if (!bounds[at].has(a[at])) {
                    return bounds[at].refusal();
                }
            }
            return late;
        }
    }

    private record Stage(String name, Supplier<JudgedRows> make, int judges, int rows, int shown, boolean spent) {
        boolean hasGame() {
            return rows > 0;
        }
    }

    public static void main(String[] args) {
        Stage[] stages = {
            new Stage("no game", () -> Games.page("12"), 0, 0, 0, false),
            new Stage("least game", () -> Games.of("12;j;a"), 1, 2, 0, false),
            new Stage("two judges", RefusalsTest::twoJudges, 2, 64, 1, false),
            new Stage("largest game", RefusalsTest::largest, 3, 216, 11, false),
            new Stage("all is full", RefusalsTest::spent, 3, 4, 12, true)
        };
        for (Stage stage : stages) {
            for (Rule rule : rules(stage)) {
                mixes(stage, rule);
            }
        }
        withoutArguments();
        DUE.end();
    }

    private static JudgedRows twoJudges() {
        JudgedRows x = Games.of("34;ts;bda");
        x.image();
        x.show(63, 1);
        return x;
    }

    private static JudgedRows largest() {
        JudgedRows x = Games.of("36;jwc;abf");
        for (int many = 0; many < 11; many++) {
            x.show(200 + many, many % 3);
        }
        x.image();
        Games.write(x, "36;jwc;abfa");
        return x;
    }

    /** What is shown, the page, and all that may be done but so often: full. */
    private static JudgedRows spent() {
        JudgedRows x = Games.of("22;jsc;ab");
        for (int many = 0; many < 12; many++) {
            x.show(many % 4, many % 3);
        }
        x.image();
        Games.write(x, "22;jsc;abaaa");
        for (int many = 0; many < 24; many++) {
            x.best(many % 3, many % 2);
        }
        for (int many = 0; many < 6; many++) {
            x.howLong(many % 3, many % 4);
        }
        for (int many = 0; many < 9; many++) {
            x.parts(many % 3, many / 3);
        }
        return x;
    }

    private static List<Rule> rules(Stage stage) {
        Bounds judge = new Bounds(UNKNOWN, 0, stage.judges() - 1);
        Bounds row = new Bounds(UNKNOWN, 0, stage.rows() - 1);
        Bounds number = new Bounds(UNKNOWN, 0, stage.shown() - 1);
        Bounds kind = to(4);
        int full = stage.spent() ? FULL : NOT_REFUSED;
        int spent = stage.spent() ? STATE : NOT_REFUSED;
        List<Rule> rules = new ArrayList<>();
        rules.add(new Rule("letter", (x, a) -> x.letter(a[0]), full, new Bounds(OUTSIDE, 1, 126)));
        rules.add(new Rule("judge", (x, a) -> x.judge(a[0], a[1]), NOT_REFUSED, judge, to(4)));
        rules.add(new Rule("as", (x, a) -> x.as(a[0], a[1]), NOT_REFUSED, judge, kind));
        rules.add(new Rule("row", (x, a) -> x.row(a[0], a[1]), NOT_REFUSED, row, to(4)));
        rules.add(new Rule("tells", (x, a) -> x.tells(a[0], a[1], a[2]), NOT_REFUSED, judge, row, row));
        rules.add(new Rule("seen", (x, a) -> x.seen(a[0], a[1]), NOT_REFUSED, number, to(2)));
        rules.add(new Rule("show", (x, a) -> x.show(a[0], a[1]), full, row, judge));
        rules.add(new Rule("note", (x, a) -> x.note(a[0], a[1], a[2]), full, row, judge, to(40)));
        rules.add(new Rule("hide", (x, a) -> x.hide(a[0]), NOT_REFUSED, row));
        rules.add(new Rule("swap", (x, a) -> x.swap(a[0], a[1]), NOT_REFUSED, judge, kind));
        rules.add(new Rule("fits", (x, a) -> x.fits(a[0]), stage.hasGame() ? NOT_REFUSED : STATE, to(Games.MOST)));
        rules.add(new Rule("best", (x, a) -> x.best(a[0], a[1]), spent, judge, to(1)));
        rules.add(new Rule("rest", (x, a) -> x.rest(a[0], a[1], a[2]), NOT_REFUSED, row, judge, to(1)));
        rules.add(new Rule("howLong", (x, a) -> x.howLong(a[0], a[1]), spent, judge, row));
        rules.add(new Rule("parts", (x, a) -> x.parts(a[0], a[1]), stage.rows() > 64 ? STATE : spent, judge, to(2)));
        rules.add(new Rule("tries", (x, a) -> x.tries(a[0], a[1], a[2], a[3]), NOT_REFUSED,
            judge, new Bounds(OUTSIDE, 1, 20), to(Games.MOST), to(2)));
        rules.add(new Rule("count", (x, a) -> x.count(a[0]), NOT_REFUSED, to(10)));
        return rules;
    }

    private static Bounds to(int most) {
        return new Bounds(OUTSIDE, 0, most);
    }

    private static void mixes(Stage stage, Rule rule) {
        int arguments = rule.bounds().length;
        int looks = rule.bounds()[0].looks().length;
        int mixes = (int) Math.pow(looks, arguments);
        JudgedRows x = stage.make().get();
        for (int mix = 0; mix < mixes; mix++) {
            int[] a = new int[arguments];
            for (int at = 0, over = mix; at < arguments; at++, over /= looks) {
                a[at] = rule.bounds()[at].looks()[over % looks];
            }
            if (rule.due(a) == NOT_REFUSED) {
                taken(stage, rule, a);
            } else {
                refused(stage, rule, a, x);
            }
            if (mix % LOOKS_AN_OBJECT == LOOKS_AN_OBJECT - 1 || mix == mixes - 1) {
                imageIsAsItWas(stage, rule, x);
                x = stage.make().get();
            }
        }
    }

    private static String text(Stage stage, Rule rule, int[] a) {
        StringBuilder text = new StringBuilder(stage.name() + ": " + rule.name() + "(");
        for (int at = 0; at < a.length; at++) {
            text.append(at == 0 ? "" : ", ").append(a[at]);
        }
        return text.append(")").toString();
    }

    private static void taken(Stage stage, Rule rule, int[] a) {
        int got = rule.call().of(stage.make().get(), a);
        DUE.holds(text(stage, rule, a) + " is not refused, but answered " + got, got >= NONE);
    }

    private static void refused(Stage stage, Rule rule, int[] a, JudgedRows x) {
        long before = x.digest();
        DUE.is(text(stage, rule, a), rule.call().of(x, a), rule.due(a));
        DUE.is(text(stage, rule, a) + " changes nothing", x.digest(), before);
    }

    private static void imageIsAsItWas(Stage stage, Rule rule, JudgedRows x) {
        JudgedRows untouched = stage.make().get();
        String name = stage.name() + ": " + rule.name() + ": the image";
        DUE.is(name, x.restore(), untouched.restore());
        DUE.is(name + " is as it was", x.digest(), untouched.digest());
    }

    private static void withoutArguments() {
        JudgedRows none = Games.page("12;");
        none("game() of a page that is none", none, JudgedRows::game);
        none("strike() without a game", none, JudgedRows::strike);
        none("left() without a game", none, JudgedRows::left);
        none("image() without a game", none, JudgedRows::image);
        none("restore() without a game", none, JudgedRows::restore);
        JudgedRows start = Games.of("12;j;a");
        none("game() of an empty page", start, JudgedRows::game);
        none("strike() of nothing", start, JudgedRows::strike);
        none("restore() of no image", start, JudgedRows::restore);
        JudgedRows spent = spent();
        none("game() of a page of 12 letters", spent, JudgedRows::game);
        spent.image();
        spent.blank();
        Games.write(spent, "12;j;a");
        spent.game();
        none("restore() of another game's image", spent, JudgedRows::restore);
        spent.show(0, 0);
        spent.strike();
        none("strike() when all is struck", spent, JudgedRows::strike);
    }

    private interface Plain {
        int of(JudgedRows x);
    }

    private static void none(String name, JudgedRows x, Plain call) {
        long before = x.digest();
        DUE.is(name, call.of(x), STATE);
        DUE.is(name + " changes nothing", x.digest(), before);
    }
}
