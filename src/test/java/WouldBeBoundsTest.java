import java.util.ArrayList;
import java.util.List;

/**
 * Promises 17 to 23 at their bounds: what would be. What is due was worked out by hand, but for the draws: these are
 * worked out by remainders of longs.
 */
public final class WouldBeBoundsTest {
    private static final int NONE = Games.NONE, UNKNOWN = Games.UNKNOWN, OUTSIDE = Games.OUTSIDE, STATE = Games.STATE;
    private static final Due DUE = new Due();

    public static void main(String[] args) {
        lefts();
        everyRowFits();
        fewFit();
        bestOfOnePeg();
        bestOfFewLeft();
        bestThatDoesNotFit();
        bestOfAllRows();
        bestIsDone24Times();
        rests();
        restsOfOnePeg();
        longsOfOnePeg();
        longsOfTwins();
        longGoesByTheJudgeAlone();
        howLongIsDone6Times();
        partsOfSmallGames();
        partsOfManyRows();
        partsIsDone9Times();
        draws();
        triesOfOnePeg();
        threeAtMost();
        triesOfTwoPegs();
        triesChangeNothing();
        DUE.end();
    }

    private static void due(String call, long got, long want) {
        DUE.is(call, got, want);
    }

    // ---- promise 17

    private static void lefts() {
        due("left() without a game", new JudgedRows().left(), STATE);
        due("left() behind a page that was not read", Games.page("12;j;a").left(), STATE);
        due("left() of the least game", Games.of("12;j;a").left(), 2);
        due("left() of the largest game", Games.of("36;j;abf").left(), 216);
        // Three pegs without an a: 5 times 5 times 5; with one: 3 times 25; with two: 3 times 5; with three: 1.
        int[] left = {125, 75, 15, 1};
        for (int right = 0; right <= 3; right++) {
            JudgedRows x = Games.of("36;t;abf");
            due("note(0, 0, " + right + ")", x.note(0, 0, right), left[right]);
            due("left() of " + right + " right", x.left(), left[right]);
        }
        JudgedRows x = Games.of("36;t;abf");
        x.note(0, 0, 4);
        due("left() of none", x.left(), 0);
    }

    // ---- promise 18

    private static void everyRowFits() {
        JudgedRows x = Games.of("36;j;abf");
        for (int number = 0; number < 216; number++) {
            due("fits(" + number + ")", x.fits(number), number);
        }
        due("fits(216)", x.fits(216), NONE);
        due("fits(most)", x.fits(Games.MOST), NONE);
        due("fits(-1)", x.fits(-1), OUTSIDE);
        due("fits(least)", x.fits(Games.LEAST), OUTSIDE);
        due("fits(-1) without a game: OUTSIDE is first", new JudgedRows().fits(-1), OUTSIDE);
        due("fits(most) without a game", new JudgedRows().fits(Games.MOST), STATE);
    }

    private static void fewFit() {
        JudgedRows x = Games.of("32;t;aab");
        x.note(0, 0, 1);
        // One a: abb, bab, bba.
        int[] fit = {3, 5, 6, NONE};
        for (int number = 0; number < fit.length; number++) {
            due("fits(" + number + ") of one a", x.fits(number), fit[number]);
        }
        x.note(0, 0, 2);
        due("fits(0) of none", x.fits(0), NONE);
        due("fits(most) of none", x.fits(Games.MOST), NONE);
        due("fits(-1) of none", x.fits(-1), OUTSIDE);
    }

    // ---- promise 19

    private static void bestOfOnePeg() {
        // Whatever is shown, it alone is parted from all the others: the least that fits; all others are left at worst.
        for (int kind = 0; kind < 5; kind++) {
            for (int colours = 2; colours <= 6; colours++) {
                String text = "1" + colours + ";" + Games.KINDS.charAt(kind) + ";" + (char) ('a' + colours - 1);
                JudgedRows x = Games.of(text);
                for (int gone = 0; gone < colours; gone++) {
                    due(text + " best(0, 0) without " + gone, x.best(0, 0), gone);
                    due(text + " best(0, 1) without " + gone, x.best(0, 1), Math.max(colours - gone - 1, 1));
                    x.note(gone, 0, 0);
                }
                due(text + " best(0, 0) of none", x.best(0, 0), NONE);
                due(text + " best(0, 1) of none", x.best(0, 1), 0);
                due(text + ": NONE is done, too", x.count(8), 2 * colours + 2);
            }
        }
    }

    private static void bestOfFewLeft() {
        // ab and ba are left: aa parts them for nobody; ab does for a plain, a stern and a wrong one.
        int[] best = {1, 1, 1, 1, 1};
        int[] worst = {1, 2, 1, 1, 2};
        for (int kind = 0; kind < 5; kind++) {
            JudgedRows x = Games.of("22;j" + Games.KINDS.charAt(kind) + ";ab");
            x.show(0, 0);
            due("best(1, 0) of ab and ba, kind " + kind, x.best(1, 0), best[kind]);
            due("best(1, 1) of ab and ba, kind " + kind, x.best(1, 1), worst[kind]);
        }
        JudgedRows last = Games.of("36;j;fff");
        last.show(215, 0);
        due("best(0, 0): all are as good, the last alone fits", last.best(0, 0), 215);
        due("best(0, 1): one is left", last.best(0, 1), 1);
        bestOfTwins();
    }

    private static void bestOfTwins() {
        JudgedRows two = Games.of("32;tc;aaa");
        two.note(1, 0, 2);
        two.note(2, 0, 2);
        // aaa and abb, each of which has two pegs right of aab and two of aba.
        due("best(): what is left", two.left(), 2);
        due("best(): the first that is left", two.fits(0), 0);
        due("best(): the second that is left", two.fits(1), 3);
        // aaa and abb are twins for a curt one: no row parts them, and the least that fits is shown.
        due("best(1, 0) of twins", two.best(1, 0), 0);
        due("best(1, 1) of twins", two.best(1, 1), 2);
        due("best(0, 0) of these", two.best(0, 0), 0);
        due("best(0, 1) of these", two.best(0, 1), 1);
    }

    private static void bestThatDoesNotFit() {
        JudgedRows x = Games.of("23;c;aa");
        x.note(0, 0, 0);
        due("of aa, bb and cc none is odd beside aa or bb", x.note(4, 0, 0), 3);
        // Beside aa all three are even; beside ab aa and bb are odd: it is ahead of aa, though that one is less and fits.
        due("best(0, 0) does not fit", x.best(0, 0), 1);
        due("best(0, 1): two at worst", x.best(0, 1), 2);
        due("it does not fit", x.row(1, 0), 0);
    }

    private static void bestOfAllRows() {
        // Whatever is shown to a stern one: of 5 times 5 times 5 rows no peg is right.
        JudgedRows x = Games.of("36;t;fff");
        due("best(0, 0) of all 216: all rows are alike", x.best(0, 0), 0);
        due("best(0, 1) of all 216", x.best(0, 1), 125);
    }

    private static void bestIsDone24Times() {
        JudgedRows x = Games.of("22;jc;ab");
        for (int many = 1; many <= 24; many++) {
            due("best(2, 0) is not done", x.best(2, 0), UNKNOWN);
            due("best(0, 2) is not done", x.best(0, 2), OUTSIDE);
            due("best() the " + many + "th time", x.best(0, many % 2), many % 2 == 0 ? 0 : 2);
            due("best() was done " + many + " times", x.count(8), many);
        }
        x.image();
        long before = x.digest();
        due("best(0, 0) behind 24", x.best(0, 0), STATE);
        due("best(1, 1) behind 24", x.best(1, 1), STATE);
        due("best(0, 2) behind 24: OUTSIDE is first", x.best(0, 2), OUTSIDE);
        due("best(0, -1) behind 24: OUTSIDE is first", x.best(0, -1), OUTSIDE);
        due("best(2, 0) behind 24: UNKNOWN is first", x.best(2, 0), UNKNOWN);
        due("best(-1, 2) behind 24: UNKNOWN is first", x.best(-1, 2), UNKNOWN);
        due("best() behind 24 changes nothing", x.digest(), before);
        x.restore();
        due("restore() gives no more of them", x.best(0, 0), STATE);
        due("howLong() goes on", x.howLong(0, 0), 1);
        due("parts() goes on", x.parts(0, 0), 2);
    }

    // ---- promise 20

    private static void rests() {
        // aaa parts all 216 by a's: 125, 75, 15, 1: squares 21476 of 216, by 4; a curt one 76 and 140: 25376 of 216, by 8.
        int[] above = {5369, 5369, 5369, 5369, 3172};
        int[] below = {54, 54, 54, 54, 27};
        for (int kind = 0; kind < 5; kind++) {
            JudgedRows x = Games.of("36;" + Games.KINDS.charAt(kind) + ";abf");
            due("rest(0, 0, 0), kind " + kind, x.rest(0, 0, 0), above[kind]);
            due("rest(0, 0, 1), kind " + kind, x.rest(0, 0, 1), below[kind]);
            due("rest(215, 0, 0), kind " + kind, x.rest(215, 0, 0), above[kind]);
            due("rest(216, 0, 0)", x.rest(216, 0, 0), UNKNOWN);
            x.note(0, 0, 40);
            due("rest(0, 0, 0) of none", x.rest(0, 0, 0), 0);
            due("rest(215, 0, 1) of none", x.rest(215, 0, 1), 1);
        }
        JudgedRows one = Games.of("36;j;abf");
        one.show(11, 0);
        for (int row = 0; row < 216; row += 43) {
            due("rest() of one, above", one.rest(row, 0, 0), 1);
            due("rest() of one, below", one.rest(row, 0, 1), 1);
        }
    }

    private static void restsOfOnePeg() {
        // One of n is parted from the others: 1 and (n - 1) squared, of n; 2 of 2 comes to 1 of 1.
        int[] above = {1, 5, 5, 17, 13};
        int[] below = {1, 3, 2, 5, 3};
        for (int colours = 2; colours <= 6; colours++) {
            JudgedRows x = Games.of("1" + colours + ";c;a");
            for (int row = 0; row < colours; row++) {
                due("rest(" + row + ", 0, 0) of " + colours, x.rest(row, 0, 0), above[colours - 2]);
                due("rest(" + row + ", 0, 1) of " + colours, x.rest(row, 0, 1), below[colours - 2]);
            }
        }
        JudgedRows x = Games.of("16;c;a");
        x.note(0, 0, 0);
        x.note(1, 0, 0);
        due("rest() of a row that does not fit", x.rest(0, 0, 0), 4);
        due("rest() of a row that does not fit, below", x.rest(0, 0, 1), 1);
        due("rest() of one of four", x.rest(2, 0, 0), 5);
        due("rest() of one of four, below", x.rest(2, 0, 1), 2);
    }

    // ---- promise 21

    private static void longsOfOnePeg() {
        // One colour after the other is shown: the last two are known at once.
        for (int kind = 0; kind < 5; kind++) {
            for (int colours = 2; colours <= 6; colours++) {
                JudgedRows x = Games.of("1" + colours + ";" + Games.KINDS.charAt(kind) + ";a");
                for (int row = 0; row < colours; row++) {
                    int due = Math.min(row + 1, colours - 1);
                    due("howLong(0, " + row + ") of " + colours, x.howLong(0, row), due);
                }
            }
        }
    }

    private static void longsOfTwins() {
        // A short one: aa is shown first: 2, 1, 1, 0. A curt one: aa parts them 2 and 2, and there it stays.
        int[][] due = {{1, NONE, NONE, 1}, {NONE, NONE, NONE, NONE}};
        for (int judge = 0; judge < 2; judge++) {
            for (int row = 0; row < 4; row++) {
                JudgedRows x = Games.of("22;sc;ab");
                due("howLong(" + judge + ", " + row + ")", x.howLong(judge, row), due[judge][row]);
                due("NONE is done, too", x.count(9), 1);
            }
        }
    }

    private static void longGoesByTheJudgeAlone() {
        JudgedRows x = Games.of("22;jt;ab");
        x.note(0, 0, 40);
        x.note(0, 1, 40);
        x.hide(3);
        due("howLong(0, 0), though none fits", x.howLong(0, 0), 1);
        due("howLong(0, 3), though none fits", x.howLong(0, 3), 1);
        // aa: 1; then ab: 2 or 0.
        due("howLong(1, 1)", x.howLong(1, 1), 2);
        due("howLong(1, 2)", x.howLong(1, 2), 2);
        x.swap(1, 1);
        due("howLong(1, 2) behind swap(): twins", x.howLong(1, 2), NONE);
        due("what is shown stays", x.count(4), 2);
        due("what is hidden stays", x.count(5), 3);
        due("none fits, as before", x.left(), 0);
    }

    private static void howLongIsDone6Times() {
        JudgedRows x = Games.of("22;js;ab");
        for (int many = 1; many <= 6; many++) {
            due("howLong(2, 0) is not done", x.howLong(2, 0), UNKNOWN);
            due("howLong(0, 4) is not done", x.howLong(0, 4), UNKNOWN);
            due("howLong() the " + many + "th time", x.howLong(1, many % 2), many % 2 == 0 ? 1 : NONE);
            due("howLong() was done " + many + " times", x.count(9), many);
        }
        long before = x.digest();
        due("howLong(0, 0) behind 6", x.howLong(0, 0), STATE);
        due("howLong(1, 3) behind 6", x.howLong(1, 3), STATE);
        due("howLong(2, 0) behind 6: UNKNOWN is first", x.howLong(2, 0), UNKNOWN);
        due("howLong(0, 4) behind 6: UNKNOWN is first", x.howLong(0, 4), UNKNOWN);
        due("howLong(0, least) behind 6: UNKNOWN is first", x.howLong(0, Games.LEAST), UNKNOWN);
        due("howLong() behind 6 changes nothing", x.digest(), before);
        due("best() goes on", x.best(0, 0), 0);
        due("parts() goes on", x.parts(0, 0), 2);
        Games.write(x, "12;j;a");
        x.game();
        due("another game gives no more of them", x.howLong(0, 0), STATE);
    }

    // ---- promise 22

    private static void partsOfSmallGames() {
        for (int kind = 0; kind < 5; kind++) {
            String letter = "" + Games.KINDS.charAt(kind);
            parts("12;" + letter + ";a", 1, 0, NONE);
            parts("13;" + letter + ";a", 2, 0, 1);
            // Two rows leave two of four, and more of more.
            parts("14;" + letter + ";a", NONE, NONE, NONE);
            parts("16;" + letter + ";a", NONE, NONE, NONE);
        }
        // aa: 2, 1, 1, 0 right: ab and ba are parted by ab. A short one can't part them, a curt one no more than two sorts.
        parts("22;j;ab", 2, 0, 1);
        parts("22;s;ab", 1, 0, NONE);
        parts("22;t;ab", 2, 0, 1);
        parts("22;w;ab", 2, 0, 1);
        parts("22;c;ab", 1, 0, NONE);
        // By how many a's: 0, 1, 2, 3, and all of a like number are twins. A curt one: odd or even.
        parts("32;s;aaa", 1, 0, NONE);
        parts("32;c;aaa", 1, 0, NONE);
    }

    private static void parts(String text, int many, int first, int second) {
        JudgedRows x = Games.of(text);
        x.note(0, 0, 40);
        due(text + ": parts(0, 0)", x.parts(0, 0), many);
        due(text + ": parts(0, 1)", x.parts(0, 1), first);
        due(text + ": parts(0, 2)", x.parts(0, 2), second);
        due(text + ": parts(0, 3)", x.parts(0, 3), OUTSIDE);
        due(text + ": three are done", x.count(10), 3);
    }

    private static void partsOfManyRows() {
        String[] within = {"26;t;aa", "33;t;aaa", "34;t;aaa"};
        for (String text : within) {
            JudgedRows x = Games.of(text);
            // A stern one tells four things at most of three pegs, so 16 of two rows; three of two pegs, so 9.
            due("parts(0, 0) of " + text, x.parts(0, 0), NONE);
            due("parts() of " + text + " is done", x.count(10), 1);
        }
        String[] beyond = {"35;t;aaa", "36;t;aaa"};
        for (String text : beyond) {
            JudgedRows x = Games.of(text);
            long before = x.digest();
            for (int what = 0; what <= 2; what++) {
                due("parts(0, " + what + ") of " + text, x.parts(0, what), STATE);
            }
            due("parts(0, 3) of " + text + ": OUTSIDE is first", x.parts(0, 3), OUTSIDE);
            due("parts(0, -1) of " + text + ": OUTSIDE is first", x.parts(0, -1), OUTSIDE);
            due("parts(1, 0) of " + text + ": UNKNOWN is first", x.parts(1, 0), UNKNOWN);
            due("parts(-1, 3) of " + text + ": UNKNOWN is first", x.parts(-1, 3), UNKNOWN);
            due("parts() of " + text + " changes nothing", x.digest(), before);
            Games.write(x, "12;j;a");
            x.game();
            due("parts() of a lesser game then", x.parts(0, 0), 1);
        }
    }

    private static void partsIsDone9Times() {
        JudgedRows x = Games.of("22;js;ab");
        for (int many = 1; many <= 9; many++) {
            due("parts(2, 0) is not done", x.parts(2, 0), UNKNOWN);
            due("parts(0, 3) is not done", x.parts(0, 3), OUTSIDE);
            due("parts() the " + many + "th time", x.parts(0, many % 3), many % 3 == 0 ? 2 : many % 3 - 1);
            due("parts() was done " + many + " times", x.count(10), many);
        }
        long before = x.digest();
        due("parts(0, 0) behind 9", x.parts(0, 0), STATE);
        due("parts(1, 2) behind 9", x.parts(1, 2), STATE);
        due("parts(0, 3) behind 9: OUTSIDE is first", x.parts(0, 3), OUTSIDE);
        due("parts(2, 0) behind 9: UNKNOWN is first", x.parts(2, 0), UNKNOWN);
        due("parts(2, 3) behind 9: UNKNOWN is first", x.parts(2, 3), UNKNOWN);
        due("parts() behind 9 changes nothing", x.digest(), before);
        due("best() goes on", x.best(0, 0), 0);
        due("howLong() goes on", x.howLong(0, 0), 1);
        Games.write(x, "12;j;a");
        x.game();
        due("another game gives no more of them", x.parts(0, 0), STATE);
    }

    // ---- promise 23

    /** A second, plain reading of DRAWS, by remainders of longs. */
    private static final class Draws {
        private long seed;

        Draws(int seed) {
            this.seed = seed;
        }

        int next(int many) {
            seed = (seed * 1103515245L + 12345L) % 2147483648L;
            return (int) (seed / 65536L % many);
        }
    }

    private static void draws() {
        JudgedRows x = Games.of("12;j;a");
        // The first products of 0 and 1 stay below 2 to the 31, that of 2 (2207042835) passes it: 59559187 is its rest.
        // 0: 12345, 1406932606: draws 0 and 21468, both even: a is hidden, and shown at once.
        due("tries(0, 1, 0, 2)", x.tries(0, 1, 0, 2), 1406932606);
        // 1: 1103527590, 377401575: draws 16838 and 5758, both even.
        due("tries(0, 1, 1, 2)", x.tries(0, 1, 1, 2), 377401575);
        // 2: 59559187, 1495354192, 671064393: draws 908, 22817 and one of 1: a is hidden, b is shown, then a.
        due("tries(0, 1, 2, 2)", x.tries(0, 1, 2, 2), 671064393);
        due("tries(0, 1, 2, 0)", x.tries(0, 1, 2, 0), 2);
        // 1073741824: 1073754169, 333190782: draws 16384 and 5084, both even.
        due("tries(0, 1, 1073741824, 2)", x.tries(0, 1, 1 << 30, 2), 333190782);
        // 2147483647: 1043980748, 288979989: draws 15929 and 4409, both odd.
        due("tries(0, 1, most, 2)", x.tries(0, 1, Games.MOST, 2), 288979989);
        for (int seed : new int[] {0, 1, 2, 3, 65535, 65536, 1 << 30, Games.MOST - 1, Games.MOST}) {
            Draws draws = new Draws(seed);
            int hidden = draws.next(2);
            if (draws.next(2) != hidden) {
                draws.next(1);
            }
            due("tries(0, 1, " + seed + ", 2)", x.tries(0, 1, seed, 2), draws.seed);
        }
        due("tries(0, 1, -1, 2)", x.tries(0, 1, -1, 2), OUTSIDE);
        due("tries(0, 1, least, 2)", x.tries(0, 1, Games.LEAST, 2), OUTSIDE);
    }

    /** With one peg a row that is shown and is not hidden is out, and no other one. */
    private static void triesOfOnePeg() {
        int[] seeds = {0, 1, 2, 911, 65535, 65536, 1 << 30, Games.MOST - 1, Games.MOST};
        for (int colours = 2; colours <= 6; colours++) {
            for (int kind = 0; kind < 5; kind++) {
                JudgedRows x = Games.of("1" + colours + ";" + Games.KINDS.charAt(kind) + ";b");
                for (int seed : seeds) {
                    for (int times : new int[] {1, 2, 19, 20}) {
                        onePeg(x, colours, times, seed);
                    }
                }
            }
        }
    }

    private static void onePeg(JudgedRows x, int colours, int times, int seed) {
        Draws draws = new Draws(seed);
        int shown = 0;
        int quick = 0;
        for (int time = 0; time < times; time++) {
            int many = onePegGame(draws, colours);
            shown += many;
            quick += many <= 3 ? 1 : 0;
        }
        String call = colours + " colours: tries(0, " + times + ", " + seed + ", ";
        due(call + "0)", x.tries(0, times, seed, 0), shown);
        due(call + "1)", x.tries(0, times, seed, 1), quick);
        due(call + "2)", x.tries(0, times, seed, 2), draws.seed);
    }

    private static int onePegGame(Draws draws, int colours) {
        int hidden = draws.next(colours);
        List<Integer> in = new ArrayList<>();
        for (int colour = 0; colour < colours; colour++) {
            in.add(colour);
        }
        int many = 1;
        while (in.remove(draws.next(in.size())) != hidden) {
            many++;
        }
        return many;
    }

    /** A game of just three counts, one of four does not: seeds are looked for whose first game is such a one. */
    private static void threeAtMost() {
        boolean[] met = new boolean[7];
        for (int seed = 0; seed < 400; seed++) {
            int many = onePegGame(new Draws(seed), 6);
            if (!met[many]) {
                met[many] = true;
                JudgedRows x = Games.of("16;t;a");
                due("a game of " + many, x.tries(0, 1, seed, 0), many);
                due("a game of " + many + ": three at most", x.tries(0, 1, seed, 1), many <= 3 ? 1 : 0);
            }
        }
        for (int many = 1; many <= 6; many++) {
            DUE.holds("a game of " + many + " was met", met[many]);
        }
    }

    private static void triesOfTwoPegs() {
        // Draws from SEED 0 on: 0, 21468, 9988, 22117, 3498, 16927.
        // aa is hidden; 21468 of 9: 3, ba: for a stern one 1 as aa, ca, bb, bc are; without it aa, bb, bc, ca;
        // 9988 of 4: 0, aa.
        due("tries() of a stern one", Games.of("23;t;cc").tries(0, 1, 0, 0), 2);
        // For a plain one, too, ba is told 10 beside aa, and aa, bb, bc, ca are left.
        due("tries() of a plain one", Games.of("23;j;cc").tries(0, 1, 0, 0), 2);
        // For a wrong one ba is read ab: aa, ac, bb and cb are told 10 of it as aa is, ba itself 2: again aa is drawn.
        due("tries() of a wrong one", Games.of("23;w;cc").tries(0, 1, 0, 0), 2);
        due("tries(): the seed", Games.of("23;t;cc").tries(0, 1, 0, 2), 654583775);
        // From SEED 9 on: 1341714958, 731087919, 728746556: draws 20472, 11155, 11119.
        // aa is hidden, bb is shown to a curt one: 0, as bb itself would be: it fits, but it was shown, so aa alone is left.
        due("tries(): what was shown is not shown again", Games.of("22;c;ab").tries(0, 1, 9, 0), 2);
        due("tries(): a draw of one is a draw, too", Games.of("22;c;ab").tries(0, 1, 9, 2), 728746556);
        // From SEED 17 on: draws 24107, 16552: bb is hidden, aa is shown: the other way round.
        due("tries(): nor is one that is less", Games.of("22;c;ab").tries(0, 1, 17, 0), 2);
    }

    private static void triesChangeNothing() {
        JudgedRows x = Games.of("36;jst;abf");
        x.note(0, 0, 40);
        x.image();
        long before = x.digest();
        int first = x.tries(2, 20, Games.MOST, 0);
        DUE.holds("tries() of 20 games shows 20 at least", first >= 20);
        due("tries() again is the same", x.tries(2, 20, Games.MOST, 0), first);
        due("tries() changes nothing", x.digest(), before);
        x.forget();
        x.hide(0);
        due("tries() goes by its own games alone", x.tries(2, 20, Games.MOST, 0), first);
        x.swap(0, 2);
        due("tries() goes by the kind", x.tries(0, 20, Games.MOST, 0), first);
        due("the image stays", x.restore(), 1);
        due("tries(3, 0, -1, 3): UNKNOWN is first", x.tries(3, 0, -1, 3), UNKNOWN);
        due("tries(0, 0, 0, 0)", x.tries(0, 0, 0, 0), OUTSIDE);
        due("tries(0, 21, 0, 0)", x.tries(0, 21, 0, 0), OUTSIDE);
    }
}
