/**
 * For each promise: ordinary inputs, the edges that the document names, wrong inputs.
 * What is due was worked out by hand, but where a comment says otherwise.
 */
public final class PromisesTest {
    private static final int NONE = Games.NONE, UNKNOWN = Games.UNKNOWN, OUTSIDE = Games.OUTSIDE;
    private static final int STATE = Games.STATE, FULL = Games.FULL, LEAST = Games.LEAST, MOST = Games.MOST;
    private static final Due DUE = new Due();

    public static void main(String[] args) {
        newObject();
        letters();
        blanks();
        faults();
        games();
        judges();
        testsAndTwins();
        casts();
        rows();
        tellings();
        seenOnes();
        shows();
        notes();
        strikes();
        forgets();
        hides();
        swaps();
        lefts();
        fitting();
        bests();
        rests();
        longs();
        partings();
        trying();
        images();
        restores();
        counts();
        digests();
        DUE.end();
    }

    private static void due(String call, long got, long want) {
        DUE.is(call, got, want);
    }

    private static void write(JudgedRows x, String text) {
        Games.write(x, text);
    }

    private static JudgedRows of(String text) {
        return Games.of(text);
    }

    // ---- promise 1

    private static void newObject() {
        JudgedRows x = new JudgedRows();
        for (int what = 0; what <= 10; what++) {
            due("new: count(" + what + ")", x.count(what), what == 5 ? NONE : 0);
        }
        due("new: judge(0, 0)", x.judge(0, 0), UNKNOWN);
        due("new: judge(0, 9)", x.judge(0, 9), UNKNOWN);
        due("new: as(0, 0)", x.as(0, 0), UNKNOWN);
        due("new: row(0, 0)", x.row(0, 0), UNKNOWN);
        due("new: tells(0, 0, 0)", x.tells(0, 0, 0), UNKNOWN);
        due("new: seen(0, 0)", x.seen(0, 0), UNKNOWN);
        due("new: show(0, 0)", x.show(0, 0), UNKNOWN);
        due("new: note(0, 0, 0)", x.note(0, 0, 0), UNKNOWN);
        due("new: hide(0)", x.hide(0), UNKNOWN);
        due("new: swap(0, 0)", x.swap(0, 0), UNKNOWN);
        due("new: best(0, 0)", x.best(0, 0), UNKNOWN);
        due("new: rest(0, 0, 0)", x.rest(0, 0, 0), UNKNOWN);
        due("new: howLong(0, 0)", x.howLong(0, 0), UNKNOWN);
        due("new: parts(0, 0)", x.parts(0, 0), UNKNOWN);
        due("new: tries(0, 1, 0, 0)", x.tries(0, 1, 0, 0), UNKNOWN);
        due("new: game()", x.game(), STATE);
        due("new: fault()", x.fault(), 0);
        due("new: blank()", x.blank(), 0);
        due("new: forget()", x.forget(), 0);
    }

    // ---- promise 2

    private static void letters() {
        JudgedRows x = new JudgedRows();
        due("letter(0)", x.letter(0), OUTSIDE);
        due("letter(127)", x.letter(127), OUTSIDE);
        due("letter(-1)", x.letter(-1), OUTSIDE);
        due("letter(least)", x.letter(LEAST), OUTSIDE);
        due("letter(most)", x.letter(MOST), OUTSIDE);
        due("letter(1)", x.letter(1), 1);
        due("letter(126)", x.letter(126), 2);
        for (int many = 3; many <= 12; many++) {
            due("letter('a')", x.letter('a'), many);
        }
        due("letter('a') above 12", x.letter('a'), FULL);
        due("letter(0) above 12: OUTSIDE is first", x.letter(0), OUTSIDE);
        due("12 letters", x.count(6), 12);
    }

    // ---- promise 3

    private static void blanks() {
        JudgedRows x = new JudgedRows();
        write(x, "12;");
        due("blank()", x.blank(), 3);
        due("blank() again", x.blank(), 0);
        due("letter behind blank()", x.letter('1'), 1);
        due("old letters are gone", x.fault(), 1);
    }

    // ---- promise 4

    private static void faults() {
        faultAt("", 0);
        faultAt("0", 0);
        faultAt("1", 1);
        faultAt("3", 1);
        faultAt("4", 0);
        faultAt("11", 1);
        faultAt("12", 2);
        faultAt("36", 2);
        faultAt("37", 1);
        faultAt("12,", 2);
        faultAt("12;", 3);
        faultAt("12;;", 3);
        faultAt("12;x", 3);
        faultAt("12;J", 3);
        faultAt("12;j", 4);
        faultAt("12;jst", 6);
        faultAt("12;wc;", 6);
        faultAt("12;jstw", 6);
        faultAt("12;jst;", 7);
        faultAt("12;j;;", 5);
        faultAt("12;j;j", 5);
        faultAt("12;j;b", 6);
        faultAt("12;j;c", 5);
        faultAt("16;j;f", 6);
        faultAt("16;j;g", 5);
        faultAt("16;j;A", 5);
        faultAt("12;j;ab", 6);
        faultAt("12;j;a;", 6);
        faultAt("23;cc;c", 7);
        faultAt("36;jjj;fff", 10);
        faultAt("36;jjj;ffff", 10);
        faultAt("36;jjj;fffff", 10);
        faultAt("x2;j;a", 0);
        // A letter that is wrong early counts, not what stands behind it.
        faultAt("1;;j", 1);
    }

    private static void faultAt(String text, int place) {
        JudgedRows x = new JudgedRows();
        write(x, text);
        due("fault() of " + text, x.fault(), place);
        due("fault() of " + text + " changes nothing", x.count(6), text.length());
    }

    // ---- promise 5

    private static void games() {
        String[] texts = {"12;j;a", "16;j;f", "22;s;ab", "26;t;ff", "32;w;bbb", "34;jwc;bda", "36;ccc;fff"};
        int[] rows = {2, 6, 4, 36, 8, 64, 216};
        int[] hidden = {0, 5, 1, 35, 7, 28, 215};
        for (int at = 0; at < texts.length; at++) {
            JudgedRows x = new JudgedRows();
            write(x, texts[at]);
            due("game() of " + texts[at], x.game(), rows[at]);
            due("hidden of " + texts[at], x.count(5), hidden[at]);
            due("the page is empty behind " + texts[at], x.count(6), 0);
            due("judges of " + texts[at], x.count(3), texts[at].indexOf(';', 3) - 3);
        }
        for (String text : new String[] {"", "1", "12;", "12;j", "12;j;", "22;j;a", "12;j;ab", "12;;a", "12;jjjj;a"}) {
            JudgedRows x = new JudgedRows();
            write(x, text);
            due("game() of " + text, x.game(), STATE);
            due("a refused page stays: " + text, x.count(6), text.length());
            due("none was read: " + text, x.count(7), 0);
        }
        anotherGame();
    }

    private static void anotherGame() {
        JudgedRows x = of("34;jwc;bda");
        x.show(5, 2);
        x.image();
        x.best(0, 0);
        x.howLong(0, 0);
        x.parts(0, 0);
        write(x, "23;s;cb");
        due("another game()", x.game(), 9);
        due("another: shown", x.count(4), 0);
        due("another: judges", x.count(3), 1);
        due("another: pegs", x.count(0), 2);
        due("another: colours", x.count(1), 3);
        due("another: hidden", x.count(5), 7);
        due("another: kind", x.judge(0, 0), 1);
        due("another: no second judge", x.judge(1, 0), UNKNOWN);
        due("another: no row 9", x.row(9, 0), UNKNOWN);
        due("another: left", x.left(), 9);
        due("another: no image", x.restore(), STATE);
        due("another: games read", x.count(7), 2);
        due("another: best() was done", x.count(8), 1);
        due("another: howLong() was done", x.count(9), 1);
        due("another: parts() was done", x.count(10), 1);
        write(x, "23;s");
        due("a page that is none", x.game(), STATE);
        due("a refused one changes nothing", x.left(), 9);
    }

    // ---- promise 6

    private static void judges() {
        String letters = "jstwc";
        for (int kind = 0; kind < 5; kind++) {
            due("kind " + letters.charAt(kind), of("12;" + letters.charAt(kind) + ";a").judge(0, 0), kind);
        }
        JudgedRows x = of("22;jc;ab");
        due("judge(2, 0)", x.judge(2, 0), UNKNOWN);
        due("judge(-1, 0)", x.judge(-1, 0), UNKNOWN);
        due("judge(2, 5): UNKNOWN is first", x.judge(2, 5), UNKNOWN);
        due("judge(0, 5)", x.judge(0, 5), OUTSIDE);
        due("judge(0, -1)", x.judge(0, -1), OUTSIDE);
        due("judge(0, most)", x.judge(0, MOST), OUTSIDE);
        due("judge(0, 1)", x.judge(0, 1), 0);
        due("judge(0, 2): all", x.judge(0, 2), 31);
        // Of "ba": 2, 2, 0, 20, 0 by the kinds: two at worst; of each row ahead of it three.
        due("judge(0, 3)", x.judge(0, 3), 2);
        x.show(1, 0);
        due("judge(0, 1) behind one", x.judge(0, 1), 1);
        due("judge(1, 1) behind none", x.judge(1, 1), 0);
        due("20 is what a plain one tells alone", x.judge(0, 2), 1);
        due("the other judge's sorts", x.judge(1, 2), 31);
        x.show(1, 1);
        due("0 is what a curt one tells alone", x.judge(1, 2), 16);
        x.note(0, 1, 40);
        due("nobody tells 40", x.judge(1, 2), 0);
        due("no test for no sorts", x.judge(1, 3), NONE);
        due("the others' test", x.judge(0, 3), 0);
    }

    private static void testsAndTwins() {
        // "ba" beside "ab": SHORT and JUDGE tell 2; WRONG tells 20; STERN and CURT 0.
        JudgedRows x = of("22;j;ab");
        x.note(2, 0, 2);
        due("sorts by 2 of ba", x.judge(0, 2), 3);
        // "aa" parts the two: 10 and 1.
        due("test for those", x.judge(0, 3), 0);
        x.hide(2);
        due("sorts go by the hidden row as it is now", x.judge(0, 2), 14);
        due("twins: plain", of("22;j;ab").judge(0, 4), NONE);
        due("twins: stern", of("22;t;ab").judge(0, 4), NONE);
        due("twins: wrong", of("22;w;ab").judge(0, 4), NONE);
        due("twins: short", of("22;s;ab").judge(0, 4), 1002);
        due("twins: curt", of("22;c;ab").judge(0, 4), 3);
        due("twins: short, one peg", of("16;s;a").judge(0, 4), NONE);
        due("twins: short, three pegs", of("36;s;abf").judge(0, 4), 1006);
        due("twins: plain, three pegs", of("36;j;abf").judge(0, 4), NONE);
        due("twins: wrong, three pegs", of("36;w;abf").judge(0, 4), NONE);
        JudgedRows y = of("22;s;ab");
        y.show(0, 0);
        due("twins go by all rows, whatever was told", y.judge(0, 4), 1002);
    }

    // ---- promise 7

    private static void casts() {
        String letters = "jstwc";
        for (int kind = 0; kind < 5; kind++) {
            JudgedRows x = of("12;j" + letters.charAt(kind) + ";a");
            for (int as = 0; as < 5; as++) {
                boolean is = as == 0 || as == kind || kind == 4 && as == 1;
                due(letters.charAt(kind) + " as " + as, x.as(1, as), is ? 1 : NONE);
            }
        }
        JudgedRows x = of("12;c;a");
        due("as(1, 0)", x.as(1, 0), UNKNOWN);
        due("as(-1, 7): UNKNOWN is first", x.as(-1, 7), UNKNOWN);
        due("as(0, 5)", x.as(0, 5), OUTSIDE);
        due("as(0, -1)", x.as(0, -1), OUTSIDE);
        x.swap(0, 1);
        due("as CURT behind swap()", x.as(0, 4), NONE);
    }

    // ---- promise 8

    private static void rows() {
        JudgedRows x = of("34;j;bda");
        due("row(28, 1)", x.row(28, 1), 1);
        due("row(28, 2)", x.row(28, 2), 3);
        due("row(28, 3)", x.row(28, 3), 0);
        due("row(28, 4)", x.row(28, 4), 1);
        due("row(27, 4)", x.row(27, 4), 0);
        due("row(28, 0)", x.row(28, 0), 1);
        due("row(64, 0)", x.row(64, 0), UNKNOWN);
        due("row(-1, 9): UNKNOWN is first", x.row(-1, 9), UNKNOWN);
        due("row(0, 5)", x.row(0, 5), OUTSIDE);
        due("row(0, -1)", x.row(0, -1), OUTSIDE);
        due("row(63, 1)", x.row(63, 1), 3);
        x.show(0, 0);
        due("row(0, 0) no more", x.row(0, 0), 0);
        due("row(28, 0) still", x.row(28, 0), 1);
        JudgedRows y = of("23;j;cb");
        due("row(7, 1)", y.row(7, 1), 2);
        due("row(7, 2)", y.row(7, 2), 1);
        due("row(7, 3): two pegs", y.row(7, 3), NONE);
        due("row(1, 2): one peg", of("12;j;a").row(1, 2), NONE);
    }

    // ---- promise 9

    private static void tellings() {
        // aab (1) beside aba (3): RIGHT 1, ALIKE 3; from the other end the same.
        tellsOf("33", 1, 3, 12, 3, 1, 12, 1);
        // abc (5) beside cba (21): RIGHT 1, ALIKE 3; from the other end all are RIGHT.
        tellsOf("33", 5, 21, 12, 3, 1, 30, 1);
        // abc (5) beside itself; from the other end one is RIGHT.
        tellsOf("33", 5, 5, 30, 3, 3, 12, 1);
        // aaa (0) beside abb (4): ALIKE goes by the one that has it less often.
        tellsOf("33", 0, 4, 10, 1, 1, 10, 1);
        // aab (1) beside bbc (14): one b, elsewhere; from the other end in its place.
        tellsOf("33", 1, 14, 1, 1, 0, 10, 1);
        // aaa (0) beside bbb (13).
        tellsOf("33", 0, 13, 0, 0, 0, 0, 0);
        // ab (1) beside ba (2) of two colours: ALIKE 2 is even.
        tellsOf("22", 1, 2, 2, 2, 0, 20, 0);
        tellsOf("16", 5, 5, 10, 1, 1, 10, 1);
        JudgedRows x = of("22;jc;ab");
        due("tells(2, 0, 0)", x.tells(2, 0, 0), UNKNOWN);
        due("tells(-1, 0, 0)", x.tells(-1, 0, 0), UNKNOWN);
        due("tells(0, 4, 0)", x.tells(0, 4, 0), UNKNOWN);
        due("tells(0, -1, 0)", x.tells(0, -1, 0), UNKNOWN);
        due("tells(0, 0, 4)", x.tells(0, 0, 4), UNKNOWN);
        due("tells(0, 0, least)", x.tells(0, 0, LEAST), UNKNOWN);
        due("tells() shows nothing", x.count(4), 0);
    }

    private static void tellsOf(String size, int shown, int hidden, int... due) {
        String row = "aaa".substring(0, size.charAt(0) - '0');
        for (int kind = 0; kind < 5; kind++) {
            JudgedRows x = of(size + ";" + "jstwc".charAt(kind) + ";" + row);
            due(size + " kind " + kind + " tells " + shown + " beside " + hidden, x.tells(0, shown, hidden), due[kind]);
        }
    }

    // ---- promise 10

    private static void seenOnes() {
        JudgedRows x = of("22;jc;ab");
        x.show(2, 0);
        x.note(3, 1, 7);
        due("seen(0, 0)", x.seen(0, 0), 2);
        due("seen(0, 1)", x.seen(0, 1), 0);
        due("seen(0, 2)", x.seen(0, 2), 2);
        due("seen(1, 0)", x.seen(1, 0), 3);
        due("seen(1, 1)", x.seen(1, 1), 1);
        due("seen(1, 2)", x.seen(1, 2), 7);
        due("seen(2, 0)", x.seen(2, 0), UNKNOWN);
        due("seen(-1, 9): UNKNOWN is first", x.seen(-1, 9), UNKNOWN);
        due("seen(1, 3)", x.seen(1, 3), OUTSIDE);
        due("seen(1, -1)", x.seen(1, -1), OUTSIDE);
    }

    // ---- promise 11

    private static void shows() {
        JudgedRows x = of("22;jc;ab");
        due("show(0, 0)", x.show(0, 0), 10);
        due("show(2, 0)", x.show(2, 0), 2);
        due("show(0, 1)", x.show(0, 1), 1);
        due("show(4, 0)", x.show(4, 0), UNKNOWN);
        due("show(-1, 0)", x.show(-1, 0), UNKNOWN);
        due("show(0, 2)", x.show(0, 2), UNKNOWN);
        due("refused ones are not shown", x.count(4), 3);
        for (int many = 4; many <= 12; many++) {
            due("show(1, 0)", x.show(1, 0), 20);
        }
        due("show() above 12", x.show(1, 0), FULL);
        due("show(4, 0) above 12: UNKNOWN is first", x.show(4, 0), UNKNOWN);
        due("show(0, 2) above 12: UNKNOWN is first", x.show(0, 2), UNKNOWN);
        due("12 are shown", x.count(4), 12);
    }

    // ---- promise 12

    private static void notes() {
        JudgedRows x = of("22;jc;ab");
        due("note(0, 0, 10)", x.note(0, 0, 10), 2);
        due("note(1, 0, 2): not what the hidden row asks", x.note(1, 0, 2), 1);
        due("what fits then", x.fits(0), 2);
        due("note(0, 0, 40)", x.note(0, 0, 40), 0);
        due("note(0, 0, 41)", x.note(0, 0, 41), OUTSIDE);
        due("note(0, 0, -1)", x.note(0, 0, -1), OUTSIDE);
        due("note(4, 0, 41): UNKNOWN is first", x.note(4, 0, 41), UNKNOWN);
        due("note(0, 2, 0)", x.note(0, 2, 0), UNKNOWN);
        due("refused ones are not noted", x.count(4), 3);
        for (int many = 4; many <= 12; many++) {
            due("note(0, 1, 0)", x.note(0, 1, 0), 0);
        }
        due("note() above 12", x.note(0, 1, 0), FULL);
        due("note(0, 1, 41) above 12: OUTSIDE is first", x.note(0, 1, 41), OUTSIDE);
        due("note(0, 5, 0) above 12: UNKNOWN is first", x.note(0, 5, 0), UNKNOWN);
    }

    // ---- promise 13

    private static void strikes() {
        JudgedRows x = of("22;jc;ab");
        due("strike() of nothing", x.strike(), STATE);
        x.show(0, 0);
        x.show(1, 0);
        due("strike()", x.strike(), 1);
        due("the first stays", x.seen(0, 0), 0);
        due("the last is gone", x.seen(1, 0), UNKNOWN);
        due("left behind strike()", x.left(), 2);
        due("strike() again", x.strike(), 0);
        due("strike() once more", x.strike(), STATE);
        due("strike() without a game", new JudgedRows().strike(), STATE);
    }

    // ---- promise 14

    private static void forgets() {
        JudgedRows x = of("22;jc;ab");
        x.show(0, 0);
        x.show(1, 1);
        due("forget()", x.forget(), 2);
        due("nothing is shown", x.count(4), 0);
        due("left behind forget()", x.left(), 4);
        due("forget() again", x.forget(), 0);
        due("the hidden row stays", x.count(5), 1);
    }

    // ---- promise 15

    private static void hides() {
        JudgedRows x = of("22;j;ab");
        x.show(1, 0);
        due("hide(3)", x.hide(3), 1);
        due("hidden then", x.count(5), 3);
        due("what was told stays", x.seen(0, 2), 20);
        due("left goes by what was told", x.fits(0), 1);
        due("show() goes by the new one", x.show(0, 0), 0);
        due("hide(4)", x.hide(4), UNKNOWN);
        due("hide(-1)", x.hide(-1), UNKNOWN);
        due("a refused one changes nothing", x.count(5), 3);
        due("hide(3) again", x.hide(3), 3);
    }

    // ---- promise 16

    private static void swaps() {
        JudgedRows x = of("22;jc;ab");
        x.show(0, 0);
        due("swap(0, 2)", x.swap(0, 2), 0);
        due("his kind then", x.judge(0, 0), 2);
        due("what he told stays", x.seen(0, 2), 10);
        due("nobody fits: a stern one never tells 10", x.left(), 0);
        due("show() to a stern one", x.show(1, 0), 2);
        due("swap(0, 5)", x.swap(0, 5), OUTSIDE);
        due("swap(0, -1)", x.swap(0, -1), OUTSIDE);
        due("swap(2, 5): UNKNOWN is first", x.swap(2, 5), UNKNOWN);
        due("swap(-1, 0)", x.swap(-1, 0), UNKNOWN);
        due("swap(0, 4)", x.swap(0, 4), 2);
        due("swap(1, 0)", x.swap(1, 0), 4);
        due("swap(1, 0) to the same", x.swap(1, 0), 0);
    }

    // ---- promise 17

    private static void lefts() {
        due("left() without a game", new JudgedRows().left(), STATE);
        JudgedRows x = of("22;jc;ab");
        due("left()", x.left(), 4);
        x.show(0, 1);
        due("left() behind a curt one", x.left(), 2);
        x.show(1, 0);
        due("left() behind both", x.left(), 1);
        x.note(1, 0, 2);
        due("left() of what can't be", x.left(), 0);
    }

    // ---- promise 18

    private static void fitting() {
        due("fits(-1) without a game: OUTSIDE is first", new JudgedRows().fits(-1), OUTSIDE);
        due("fits(0) without a game", new JudgedRows().fits(0), STATE);
        JudgedRows x = of("22;jc;ab");
        due("fits(3)", x.fits(3), 3);
        due("fits(4)", x.fits(4), NONE);
        x.show(0, 0);
        due("fits(0) behind one", x.fits(0), 1);
        due("fits(1) behind one", x.fits(1), 2);
        due("fits(2) behind one", x.fits(2), NONE);
        due("fits(most)", x.fits(MOST), NONE);
        due("fits(least)", x.fits(LEAST), OUTSIDE);
    }

    // ---- promise 19

    private static void bests() {
        JudgedRows x = of("22;js;ab");
        due("best(0, 0)", x.best(0, 0), 0);
        due("best(0, 1)", x.best(0, 1), 2);
        x.show(0, 0);
        // ab and ba are left: aa does not part them, ab does; a short judge never does.
        due("best(0, 0) behind aa", x.best(0, 0), 1);
        due("best(0, 1) behind aa", x.best(0, 1), 1);
        due("best(1, 0): one that fits is first", x.best(1, 0), 1);
        due("best(1, 1)", x.best(1, 1), 2);
        x.note(0, 0, 40);
        due("best(0, 0) when none fits", x.best(0, 0), NONE);
        due("best(0, 1) when none fits", x.best(0, 1), 0);
        due("best(2, 2): UNKNOWN is first", x.best(2, 2), UNKNOWN);
        due("best(-1, 0)", x.best(-1, 0), UNKNOWN);
        due("best(0, 2)", x.best(0, 2), OUTSIDE);
        due("best(0, -1)", x.best(0, -1), OUTSIDE);
        due("refused ones are not done", x.count(8), 8);
        bestThatDoesNotFit();
        for (int many = 9; many <= 24; many++) {
            due("best() the " + many + "th time", x.best(0, 1), 0);
        }
        due("best() was done 24 times", x.best(0, 1), STATE);
        due("best(0, 2): OUTSIDE is ahead of STATE", x.best(0, 2), OUTSIDE);
        due("best(2, 0): UNKNOWN is ahead of STATE", x.best(2, 0), UNKNOWN);
        due("24 times", x.count(8), 24);
        write(x, "12;j;a");
        x.game();
        due("another game gives no more of them", x.best(0, 0), STATE);
    }

    private static void bestThatDoesNotFit() {
        JudgedRows x = of("12;j;b");
        x.show(0, 0);
        due("best(): row 1 fits, row 0 is as good", x.best(0, 0), 1);
        JudgedRows y = of("24;t;cc");
        y.note(0, 0, 0);
        y.note(5, 0, 0);
        // cc, cd, dc, dd are left: a stern one told cc parts them 1, 2, 1; ac (2) parts them 2, 2.
        due("best(): worst 2, so one that fits", y.best(0, 0), 10);
        due("best(): worst", y.best(0, 1), 2);
        JudgedRows z = of("14;j;d");
        z.note(0, 0, 0);
        due("best(): b is the least of those that fit", z.best(0, 0), 1);
        due("best(): two at worst", z.best(0, 1), 2);
        notFitting();
    }

    private static void notFitting() {
        JudgedRows x = of("33;t;abc");
        x.note(0, 0, 1);
        x.note(13, 0, 1);
        x.note(26, 0, 1);
        // The six orders of abc are left: one of them parts 1, 3, 2; aab (1) parts them 2, 2, 2, and does not fit.
        due("orders are left", x.left(), 6);
        due("best() that does not fit", x.best(0, 0), 1);
        due("best() that does not fit: worst", x.best(0, 1), 2);
    }

    // ---- promise 20

    private static void rests() {
        JudgedRows x = of("22;js;ab");
        due("rest(0, 0, 0)", x.rest(0, 0, 0), 3);
        due("rest(0, 0, 1)", x.rest(0, 0, 1), 2);
        due("rest(1, 1, 0): two, and two", x.rest(1, 1, 0), 2);
        due("rest(1, 1, 1)", x.rest(1, 1, 1), 1);
        x.show(0, 0);
        due("rest(0, 0, 0) behind aa", x.rest(0, 0, 0), 2);
        due("rest(0, 0, 1) behind aa", x.rest(0, 0, 1), 1);
        due("rest(1, 0, 0) behind aa", x.rest(1, 0, 0), 1);
        due("rest(1, 0, 1) behind aa", x.rest(1, 0, 1), 1);
        x.note(0, 0, 40);
        due("rest(0, 0, 0) of none", x.rest(0, 0, 0), 0);
        due("rest(0, 0, 1) of none", x.rest(0, 0, 1), 1);
        due("rest(4, 0, 0)", x.rest(4, 0, 0), UNKNOWN);
        due("rest(0, 2, 2): UNKNOWN is first", x.rest(0, 2, 2), UNKNOWN);
        due("rest(0, 0, 2)", x.rest(0, 0, 2), OUTSIDE);
        due("rest(0, 0, -1)", x.rest(0, 0, -1), OUTSIDE);
        JudgedRows y = of("15;t;a");
        due("rest(): 1 and 16 of 5", y.rest(3, 0, 0), 17);
        due("rest(): below", y.rest(3, 0, 1), 5);
    }

    // ---- promise 21

    private static void longs() {
        JudgedRows x = of("22;js;bb");
        x.show(3, 0);
        due("howLong(0, 0)", x.howLong(0, 0), 1);
        due("howLong(0, 1), whatever was shown", x.howLong(0, 1), 2);
        due("howLong(1, 0)", x.howLong(1, 0), 1);
        due("howLong(1, 1): twins", x.howLong(1, 1), NONE);
        due("howLong(2, 0)", x.howLong(2, 0), UNKNOWN);
        due("howLong(-1, 0)", x.howLong(-1, 0), UNKNOWN);
        due("howLong(0, 4)", x.howLong(0, 4), UNKNOWN);
        due("howLong(0, -1)", x.howLong(0, -1), UNKNOWN);
        due("refused ones are not done", x.count(9), 4);
        due("howLong(0, 3)", x.howLong(0, 3), 1);
        due("howLong(0, 2)", x.howLong(0, 2), 2);
        due("howLong() was done 6 times", x.howLong(0, 0), STATE);
        due("howLong(0, 4): UNKNOWN is ahead of STATE", x.howLong(0, 4), UNKNOWN);
        due("6 times", x.count(9), 6);
        due("what was shown stays", x.count(4), 1);
        due("the hidden row stays", x.count(5), 3);
        // One colour after the other is shown, till one is left.
        JudgedRows y = of("16;t;a");
        due("howLong() of the first of six", y.howLong(0, 0), 1);
        due("howLong() of the fifth of six", y.howLong(0, 4), 5);
        due("howLong() of the last of six", y.howLong(0, 5), 5);
        // No game takes longer than this; the number is the oracle's, not worked out by hand.
        due("howLong() of the longest", of("36;t;aaa").howLong(0, 60), 7);
        due("howLong() of a curt one", of("36;c;aaa").howLong(0, 43), 7);
    }

    // ---- promise 22

    private static void partings() {
        JudgedRows x = of("22;jsc;ab");
        x.show(1, 0);
        due("parts(0, 0)", x.parts(0, 0), 2);
        due("parts(0, 1)", x.parts(0, 1), 0);
        due("parts(0, 2)", x.parts(0, 2), 1);
        due("parts(1, 0)", x.parts(1, 0), 1);
        due("parts(1, 1)", x.parts(1, 1), 0);
        due("parts(1, 2): one is enough", x.parts(1, 2), NONE);
        due("parts(2, 0)", x.parts(2, 0), 1);
        due("parts(3, 0)", x.parts(3, 0), UNKNOWN);
        due("parts(3, 3): UNKNOWN is first", x.parts(3, 3), UNKNOWN);
        due("parts(0, 3)", x.parts(0, 3), OUTSIDE);
        due("parts(0, -1)", x.parts(0, -1), OUTSIDE);
        due("refused ones are not done", x.count(10), 7);
        x.swap(2, 2);
        due("parts() of a stern one", x.parts(2, 0), 2);
        due("parts() of a stern one: the second", x.parts(2, 2), 1);
        due("parts() was done 9 times", x.parts(0, 0), STATE);
        due("parts(0, 3): OUTSIDE is ahead of STATE", x.parts(0, 3), OUTSIDE);
        due("9 times", x.count(10), 9);
        // One peg: each row parts one colour from all others; two rows leave more than one of four.
        JudgedRows y = of("14;j;a");
        due("parts(): 2 are not enough", y.parts(0, 0), NONE);
        due("parts(): 2 are not enough, the first", y.parts(0, 1), NONE);
        due("parts(): 2 are not enough, the second", y.parts(0, 2), NONE);
        due("NONE is done, too", y.count(10), 3);
        // This one is the shared test's.
        due("parts() of 64 rows", of("34;j;aaa").parts(0, 0), NONE);
        JudgedRows z = of("35;j;aaa");
        due("parts() of 125 rows", z.parts(0, 0), STATE);
        due("parts() of 125 rows: OUTSIDE is first", z.parts(0, 3), OUTSIDE);
        due("it is not done", z.count(10), 0);
        // Row 4 of the larger game, shown beside c, would part all four of the smaller one.
        JudgedRows again = of("34;j;aaa");
        write(again, "14;j;a");
        again.game();
        due("parts(): rows of an earlier game are gone", again.parts(0, 0), NONE);
    }

    // ---- promise 23

    private static void trying() {
        // From SEED 0 on: 12345, 1406932606, 654583775, 1449466924, 229283573; draws of 2: 0, 0, 0, 1, and one of 1.
        JudgedRows x = of("12;j;b");
        x.show(0, 0);
        due("tries(0, 1, 0, 0): a at once", x.tries(0, 1, 0, 0), 1);
        due("tries(0, 1, 0, 1)", x.tries(0, 1, 0, 1), 1);
        due("tries(0, 1, 0, 2)", x.tries(0, 1, 0, 2), 1406932606);
        due("tries(0, 2, 0, 0): a at once; b, then a", x.tries(0, 2, 0, 0), 3);
        due("tries(0, 2, 0, 2)", x.tries(0, 2, 0, 2), 229283573);
        due("tries(0, 20, 0, 1)", x.tries(0, 20, 0, 1), 20);
        due("tries(1, 1, 0, 0)", x.tries(1, 1, 0, 0), UNKNOWN);
        due("tries(-1, 0, -1, 3): UNKNOWN is first", x.tries(-1, 0, -1, 3), UNKNOWN);
        due("tries(0, 0, 0, 0)", x.tries(0, 0, 0, 0), OUTSIDE);
        due("tries(0, 21, 0, 0)", x.tries(0, 21, 0, 0), OUTSIDE);
        due("tries(0, 1, -1, 0)", x.tries(0, 1, -1, 0), OUTSIDE);
        due("tries(0, 1, 0, 3)", x.tries(0, 1, 0, 3), OUTSIDE);
        due("tries(0, 1, 0, -1)", x.tries(0, 1, 0, -1), OUTSIDE);
        due("tries() shows nothing", x.count(4), 1);
        due("tries() hides nothing", x.count(5), 1);
        due("tries() leaves what is left", x.left(), 1);
        // From SEED 2147483647 on: 1043980748, 288979989: draws 15929 and 4409, both odd.
        due("tries(0, 1, most, 2)", x.tries(0, 1, MOST, 2), 288979989);
        due("tries(0, 1, most, 0)", x.tries(0, 1, MOST, 0), 1);
        triesOfOthers();
    }

    private static void triesOfOthers() {
        // Draws from SEED 0 on: 0, 21468, 9988, 22117, 3498, 16927.
        // Of 6 a is hidden; 21468 of 6: a.
        due("tries(): one of six", of("16;t;a").tries(0, 1, 0, 0), 1);
        // Then 9988 of 6: e; 22117 of 6: b; 3498 of 5 (all but b): 3, e.
        due("tries(): two of six", of("16;t;a").tries(0, 2, 0, 0), 3);
        // aa is hidden; 21468 of 4: aa. Then 9988 of 4: aa; 22117 of 4: ab; it is told 1 as aa and bb are: 3498 of 2: aa.
        due("tries() of a curt one", of("22;c;ab").tries(0, 2, 0, 0), 3);
        due("tries() of a curt one: the seed", of("22;c;ab").tries(0, 2, 0, 2), 229283573);
    }

    // ---- promise 24

    private static void images() {
        due("image() without a game", new JudgedRows().image(), STATE);
        JudgedRows x = of("22;jc;ab");
        due("image() of nothing shown", x.image(), 0);
        x.show(0, 0);
        x.show(1, 1);
        due("image() of two", x.image(), 2);
        x.forget();
        due("the latest is kept", x.restore(), 2);
    }

    // ---- promise 25

    private static void restores() {
        due("restore() without a game", new JudgedRows().restore(), STATE);
        JudgedRows x = of("22;jc;ab");
        due("restore() of none", x.restore(), STATE);
        x.show(0, 0);
        x.show(1, 1);
        x.image();
        x.strike();
        x.note(3, 0, 9);
        x.hide(3);
        x.swap(0, 4);
        x.swap(1, 2);
        x.best(0, 0);
        write(x, "12");
        due("restore()", x.restore(), 2);
        due("restored: the hidden row", x.count(5), 1);
        due("restored: the first kind", x.judge(0, 0), 0);
        due("restored: the second kind", x.judge(1, 0), 4);
        due("restored: the row", x.seen(1, 0), 1);
        due("restored: the judge", x.seen(1, 1), 1);
        due("restored: what he told", x.seen(1, 2), 0);
        due("best() stays done", x.count(8), 1);
        due("the page stays", x.count(6), 2);
        x.forget();
        due("restore() again", x.restore(), 2);
        x.blank();
        write(x, "22;jc;ab");
        due("a page that is not read yet is no other game", x.restore(), 2);
        x.game();
        due("restore() behind another game, though it is alike", x.restore(), STATE);
        x.image();
        due("restore() of a new image", x.restore(), 0);
        write(x, "22;jc");
        x.game();
        due("a refused game leaves the image", x.restore(), 0);
    }

    // ---- promise 26

    private static void counts() {
        JudgedRows x = of("34;jwc;bda");
        x.show(0, 0);
        write(x, "12");
        x.best(0, 0);
        x.best(0, 1);
        x.howLong(0, 0);
        x.parts(0, 0);
        x.parts(0, 1);
        x.parts(0, 2);
        long[] due = {3, 4, 64, 3, 1, 28, 2, 1, 2, 1, 3};
        for (int what = 0; what < due.length; what++) {
            due("count(" + what + ")", x.count(what), due[what]);
        }
        due("count(11)", x.count(11), OUTSIDE);
        due("count(-1)", x.count(-1), OUTSIDE);
        due("count(least)", x.count(LEAST), OUTSIDE);
    }

    // ---- promise 27

    private static void digests() {
        JudgedRows x = new JudgedRows();
        due("digest() of nothing", x.digest(), sum(0, 0, 0, 0, 0, -1, 0, 0, 0, 0, 0));
        write(x, "1z");
        due("digest() of two letters", x.digest(), sum('1', 'z', 0, 0, 0, 0, 0, -1, 2, 0, 0, 0, 0));
        x = of("22;js;ab");
        x.show(1, 0);
        x.note(0, 0, 10);
        x.best(0, 0);
        write(x, "2");
        due("digest() of a game", x.digest(), sum(
            0, 2, 1, 0, 1, 1,
            1, 0, 31, 2, 1, 1,
            1, 0, 20, 0, 0, 10,
            1, 1,
            '2',
            2, 2, 4, 2, 2, 1, 1, 1, 1, 0, 0));
        due("digest() changes nothing", x.digest(), x.digest());
        x.note(0, 1, 40);
        due("digest() when none fits", x.digest(), sum(
            0, 2, 1, 0, 0, 1,
            1, 1, 0, -1, 0, 1,
            1, 0, 20, 0, 0, 10, 0, 1, 40,
            0, -1,
            '2',
            2, 2, 4, 2, 3, 1, 1, 1, 1, 0, 0));
    }

    private static long sum(int... numbers) {
        return Games.sum(numbers);
    }
}
