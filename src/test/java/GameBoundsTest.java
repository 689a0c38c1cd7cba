/** Promises 1 to 10 at their bounds: the game. What is due was worked out by hand. */
public final class GameBoundsTest {
    private static final int NONE = Games.NONE, UNKNOWN = Games.UNKNOWN, OUTSIDE = Games.OUTSIDE;
    private static final int STATE = Games.STATE, FULL = Games.FULL;
    private static final String KINDS = Games.KINDS;
    private static final int[][] TOLD = Games.TOLD_BESIDE_AB;
    private static final Due DUE = new Due();

    public static void main(String[] args) {
        newObject();
        everyCode();
        fullPage();
        blanks();
        everyFault();
        firstFaultCounts();
        everySize();
        everyKind();
        unfinishedPages();
        oneLetterElse();
        anotherGame();
        nothingOfAnEarlierGame();
        manyGames();
        numbersOfJudges();
        shownToJudges();
        sorts();
        sortsOfNow();
        tests();
        twins();
        casts();
        coloursOfRows();
        hiddenRow();
        fittingRows();
        leastAndMostTold();
        toldOfSmallRows();
        tellsByKindsAlone();
        seenFromFirstToLast();
        DUE.end();
    }

    private static void due(String call, long got, long want) {
        DUE.is(call, got, want);
    }

    // ---- promise 1

    private static void newObject() {
        long empty = Games.sum(0, 0, 0, 0, 0, -1, 0, 0, 0, 0, 0);
        due("new: digest()", new JudgedRows().digest(), empty);
        JudgedRows other = Games.of("36;jst;fff");
        other.show(0, 0);
        other.image();
        other.best(0, 0);
        Games.write(other, "12");
        JudgedRows x = new JudgedRows();
        due("new beside another: digest()", x.digest(), empty);
        due("new beside another: restore()", x.restore(), STATE);
        due("new beside another: left()", x.left(), STATE);
        due("new: blank()", x.blank(), 0);
        due("new: fault()", x.fault(), 0);
        due("new: forget()", x.forget(), 0);
        due("new: these changed nothing", x.digest(), empty);
    }

    // ---- promise 2

    private static void everyCode() {
        for (int code = 1; code <= 126; code++) {
            JudgedRows x = new JudgedRows();
            due("letter(" + code + ")", x.letter(code), 1);
            due("letter(" + code + ") is kept", x.digest(), Games.sum(code, 0, 0, 0, 0, 0, -1, 1, 0, 0, 0, 0));
        }
    }

    private static void fullPage() {
        JudgedRows x = Games.of("12;j;a");
        for (int round = 0; round < 2; round++) {
            for (int many = 1; many <= 12; many++) {
                due("letter() of a page with " + (many - 1), x.letter('a' + many), many);
            }
            long before = x.digest();
            due("letter(1) above 12", x.letter(1), FULL);
            due("letter(126) above 12", x.letter(126), FULL);
            due("letter(127) above 12: OUTSIDE is first", x.letter(127), OUTSIDE);
            due("letter(0) above 12: OUTSIDE is first", x.letter(0), OUTSIDE);
            due("a refused letter changes nothing", x.digest(), before);
            due("blank() of a full page", x.blank(), 12);
        }
    }

    // ---- promise 3

    private static void blanks() {
        for (int many = 0; many <= 12; many++) {
            JudgedRows x = Games.of("22;jc;ab");
            x.show(1, 1);
            long before = x.digest();
            Games.write(x, "22;jc;abbaba".substring(0, many));
            due("blank() of " + many, x.blank(), many);
            due("blank() of " + many + " leaves the game", x.digest(), before);
            due("blank() again", x.blank(), 0);
            due("letter() behind blank() of " + many, x.letter(';'), 1);
            due("fault() behind blank() of " + many, x.fault(), 0);
        }
    }

    // ---- promise 4

    /** Behind each beginning: the letters that may come next, and no others of all 126. */
    private static void everyFault() {
        String[][] next = {
            {"", "123"}, {"1", "23456"}, {"2", "23456"}, {"3", "23456"},
            {"12", ";"}, {"24", ";"}, {"36", ";"},
            {"12;", "jstwc"}, {"36;", "jstwc"},
            {"12;j", "jstwc;"}, {"12;c", "jstwc;"}, {"36;tw", "jstwc;"}, {"12;jj", "jstwc;"}, {"12;jcw", ";"},
            {"12;j;", "ab"}, {"13;s;", "abc"}, {"14;t;", "abcd"}, {"15;w;", "abcde"}, {"16;c;", "abcdef"},
            {"12;js;", "ab"}, {"36;jst;", "abcdef"},
            {"12;j;a", ""}, {"16;jst;f", ""},
            {"22;j;b", "ab"}, {"23;jst;c", "abc"}, {"22;j;ab", ""}, {"26;jst;ff", ""},
            {"33;ss;a", "abc"}, {"33;ss;ab", "abc"}, {"36;jst;ff", "abcdef"}, {"33;s;abc", ""}, {"36;jst;fff", ""}
        };
        for (String[] each : next) {
            for (int code = 1; code <= 126; code++) {
                JudgedRows x = Games.page(each[0]);
                due("fault() of " + each[0], x.fault(), each[0].length());
                x.letter(code);
                int place = each[0].length() + (each[1].indexOf(code) >= 0 ? 1 : 0);
                due("fault() of " + each[0] + " and " + code, x.fault(), place);
                due("fault() takes no letter", x.count(6), each[0].length() + 1);
            }
        }
    }

    private static void firstFaultCounts() {
        String[] texts = {"x2;j;a", "1x;j;a", "12xj;a", "12;x;a", "12;jx;a", "12;jstx;a", "12;j;x", "22;j;ax", "12;j;ax"};
        int[] places = {0, 1, 2, 3, 4, 6, 5, 6, 6};
        for (int at = 0; at < texts.length; at++) {
            JudgedRows x = Games.page(texts[at]);
            due("fault() of " + texts[at], x.fault(), places[at]);
            Games.write(x, "xxxxxxxxxxxx".substring(texts[at].length()));
            due("fault() of " + texts[at] + " and more up to 12", x.fault(), places[at]);
            due("letters then", x.count(6), 12);
        }
        JudgedRows x = Games.of("36;jst;fff");
        due("fault() of an empty page beside a game", x.fault(), 0);
        Games.write(x, "12;c;c");
        due("fault() goes by the page's colours, not by the game's", x.fault(), 5);
        due("fault() of a full page without a right letter", Games.page("aaaaaaaaaaaa").fault(), 0);
    }

    // ---- promise 5

    private static void everySize() {
        int[][] rows = {{2, 3, 4, 5, 6}, {4, 9, 16, 25, 36}, {8, 27, 64, 125, 216}};
        for (int pegs = 1; pegs <= 3; pegs++) {
            for (int colours = 2; colours <= 6; colours++) {
                int due = rows[pegs - 1][colours - 2];
                for (int judges = 1; judges <= 3; judges++) {
                    String head = "" + pegs + colours + ";" + "wcs".substring(0, judges) + ";";
                    String last = "" + (char) ('a' + colours - 1);
                    size(head + "aaa".substring(0, pegs), new int[] {pegs, colours, due, judges, 0, 0, 0, 1, 0, 0, 0});
                    size(head + last.repeat(pegs), new int[] {pegs, colours, due, judges, 0, due - 1, 0, 1, 0, 0, 0});
                }
            }
        }
        due("game(): the first peg is the highest figure", Games.of("36;j;baa").count(5), 36);
        due("game(): the second peg is the next", Games.of("36;j;aba").count(5), 6);
        due("game(): the third peg is the lowest", Games.of("36;j;aab").count(5), 1);
        due("game(): figures by how many colours there are", Games.of("32;j;bab").count(5), 5);
    }

    private static void size(String text, int[] counts) {
        JudgedRows x = Games.page(text);
        due("game() of " + text, x.game(), counts[2]);
        for (int what = 0; what < counts.length; what++) {
            due(text + ": count(" + what + ")", x.count(what), counts[what]);
        }
    }

    private static void everyKind() {
        for (int kinds = 0; kinds < 125; kinds++) {
            int[] due = {kinds / 25, kinds / 5 % 5, kinds % 5};
            String text = "12;" + KINDS.charAt(due[0]) + KINDS.charAt(due[1]) + KINDS.charAt(due[2]) + ";b";
            JudgedRows x = Games.of(text);
            for (int judge = 0; judge < 3; judge++) {
                due(text + ": kind of " + judge, x.judge(judge, 0), due[judge]);
            }
        }
    }

    private static void unfinishedPages() {
        String text = "36;jst;fff";
        for (int many = 0; many < text.length(); many++) {
            noGame(text.substring(0, many));
        }
        for (int code = 1; code <= 126; code++) {
            noGame(text + (char) code);
            noGame("12;j;a" + (char) code);
        }
        noGame(text + "ff");
        noGame("36;;fff");
        noGame("36;jstw;fff");
        noGame("12;j;aaaaaaa");
    }

    /** The page is refused both without a game and beside one, and stays. */
    private static void noGame(String text) {
        JudgedRows x = Games.page(text);
        long before = x.digest();
        due("game() of " + text, x.game(), STATE);
        due("game() of " + text + " changes nothing", x.digest(), before);
        JudgedRows y = Games.of("22;jc;ab");
        y.show(1, 1);
        y.image();
        y.strike();
        Games.write(y, text);
        before = y.digest();
        due("game() of " + text + " beside a game", y.game(), STATE);
        due("game() of " + text + " beside a game changes nothing", y.digest(), before);
        due("game() of " + text + " leaves the image", y.restore(), 1);
    }

    /** A page that is a game, with one letter put for another. */
    private static void oneLetterElse() {
        String text = "23;sc;ba";
        String[] allowed = {"2", "23456", ";", "jstwc", "jstwc", ";", "abc", "abc"};
        for (int at = 0; at < text.length(); at++) {
            for (int code = 1; code <= 126; code++) {
                String other = text.substring(0, at) + (char) code + text.substring(at + 1);
                boolean is = allowed[at].indexOf(code) >= 0;
                int colours = at == 1 ? code - '0' : 3;
                due("game() of " + other, Games.page(other).game(), is ? colours * colours : STATE);
            }
        }
    }

    private static void anotherGame() {
        String text = "36;jwc;abf";
        JudgedRows x = Games.of(text);
        x.show(215, 2);
        x.note(3, 0, 40);
        x.hide(215);
        x.swap(0, 4);
        x.image();
        Games.write(x, text);
        due("the same text again", x.game(), 216);
        due("again: the hidden row", x.count(5), 11);
        due("again: the kind", x.judge(0, 0), 0);
        due("again: nothing is shown", x.count(4), 0);
        due("again: nothing is shown to him", x.judge(2, 1), 0);
        due("again: no seen(0, 0)", x.seen(0, 0), UNKNOWN);
        due("again: sorts", x.judge(0, 2), 31);
        due("again: left", x.left(), 216);
        due("again: strike()", x.strike(), STATE);
        due("again: forget()", x.forget(), 0);
        due("again: no image", x.restore(), STATE);
        due("again: game() of the empty page", x.game(), STATE);
        Games.write(x, "12;s;b");
        due("a lesser game", x.game(), 2);
        due("lesser: row(1, 0)", x.row(1, 0), 1);
        due("lesser: row(2, 0)", x.row(2, 0), UNKNOWN);
        due("lesser: judge(1, 0)", x.judge(1, 0), UNKNOWN);
        due("lesser: left", x.left(), 2);
        due("lesser: fits(2)", x.fits(2), NONE);
        Games.write(x, text);
        due("a larger game", x.game(), 216);
        due("larger: row(215, 1)", x.row(215, 1), 5);
        due("larger: judge(2, 0)", x.judge(2, 0), 4);
        due("larger: left", x.left(), 216);
    }

    /** A game is told in the same way by a new object and by one that has read a larger game ahead of it. */
    private static void nothingOfAnEarlierGame() {
        for (String earlier : new String[] {"36;www;fff", "34;jjj;ddd", "26;sss;ff"}) {
            for (int size = 0; size < 15; size++) {
                for (int kind = 0; kind < 5; kind++) {
                    int pegs = 1 + size / 5;
                    String text = "" + pegs + (2 + size % 5) + ";" + KINDS.charAt(kind) + ";" + "bab".substring(0, pegs);
                    JudgedRows x = Games.of(earlier);
                    x.note(7, 2, 40);
                    x.image();
                    Games.write(x, text);
                    x.game();
                    alike(text + " behind " + earlier, x, Games.of(text));
                }
            }
        }
    }

    private static void alike(String name, JudgedRows x, JudgedRows fresh) {
        for (int what = 0; what <= 4; what++) {
            due(name + ": judge(0, " + what + ")", x.judge(0, what), fresh.judge(0, what));
        }
        for (int what = 0; what <= 2; what++) {
            due(name + ": best(0, " + what + ")", x.best(0, what), fresh.best(0, what));
            due(name + ": parts(0, " + what + ")", x.parts(0, what), fresh.parts(0, what));
            due(name + ": tries(0, 20, 5, " + what + ")", x.tries(0, 20, 5, what), fresh.tries(0, 20, 5, what));
            due(name + ": rest(1, 0, " + what + ")", x.rest(1, 0, what), fresh.rest(1, 0, what));
        }
        for (int row = 0; row < 6; row++) {
            due(name + ": howLong(0, " + row + ")", x.howLong(0, row), fresh.howLong(0, row));
            due(name + ": fits(" + row + ")", x.fits(row), fresh.fits(row));
        }
        due(name + ": show(1, 0)", x.show(1, 0), fresh.show(1, 0));
        due(name + ": left()", x.left(), fresh.left());
        due(name + ": best() then", x.best(0, 0), fresh.best(0, 0));
        due(name + ": restore()", x.restore(), fresh.restore());
    }

    private static void manyGames() {
        JudgedRows x = new JudgedRows();
        for (int many = 1; many <= 60; many++) {
            Games.write(x, "12;j;b");
            due("game() the " + many + "th time", x.game(), 2);
        }
        due("60 games were read", x.count(7), 60);
    }

    // ---- promise 6

    private static void numbersOfJudges() {
        String[] texts = {"12;j;a", "12;js;a", "12;jst;a"};
        for (int many = 1; many <= 3; many++) {
            JudgedRows x = Games.of(texts[many - 1]);
            for (int judge = -1; judge <= 4; judge++) {
                boolean is = judge >= 0 && judge < many;
                due("judge(" + judge + ", 0) of " + many, x.judge(judge, 0), is ? judge : UNKNOWN);
                due("judge(" + judge + ", 5) of " + many, x.judge(judge, 5), is ? OUTSIDE : UNKNOWN);
                due("judge(" + judge + ", -1) of " + many, x.judge(judge, -1), is ? OUTSIDE : UNKNOWN);
            }
        }
    }

    private static void shownToJudges() {
        JudgedRows x = Games.of("22;jst;ab");
        for (int many = 0; many <= 12; many++) {
            due("judge(2, 1) behind " + many, x.judge(2, 1), many);
            due("judge(0, 1) behind none", x.judge(0, 1), 0);
            due("judge(1, 1) behind none", x.judge(1, 1), 0);
            if (many % 2 == 0) {
                x.show(many % 4, 2);
            } else {
                x.note(many % 4, 2, 40);
            }
        }
        x.image();
        x.strike();
        due("judge(2, 1) behind strike()", x.judge(2, 1), 11);
        x.forget();
        due("judge(2, 1) behind forget()", x.judge(2, 1), 0);
        x.restore();
        due("judge(2, 1) behind restore()", x.judge(2, 1), 12);
    }

    private static void sorts() {
        for (int row = 0; row < 4; row++) {
            for (int told = 0; told <= 40; told++) {
                JudgedRows x = Games.of("22;sj;ab");
                x.note(row, 1, told);
                int bits = 0;
                for (int kind = 0; kind < 5; kind++) {
                    bits |= TOLD[kind][row] == told ? 1 << kind : 0;
                }
                due("sorts by " + told + " of " + row, x.judge(1, 2), bits);
                due("sorts of him who told nothing", x.judge(0, 2), 31);
                due("test of none", x.judge(1, 3) == NONE ? 1 : 0, bits == 0 ? 1 : 0);
            }
        }
        JudgedRows x = Games.of("22;j;ab");
        x.note(0, 0, 1);
        due("sorts by 1 of aa", x.judge(0, 2), 22);
        x.note(1, 0, 2);
        due("and by 2 of ab", x.judge(0, 2), 6);
        x.note(2, 0, 0);
        due("and by 0 of ba", x.judge(0, 2), 4);
        x.note(2, 0, 2);
        due("and by 2 of ba: he contradicts himself", x.judge(0, 2), 0);
        x.strike();
        due("sorts behind strike()", x.judge(0, 2), 4);
    }

    private static void sortsOfNow() {
        JudgedRows x = Games.of("22;j;ab");
        x.show(1, 0);
        due("sorts by 20 of ab", x.judge(0, 2), 1);
        x.swap(0, 4);
        due("sorts do not go by the kind he is of", x.judge(0, 2), 1);
        x.hide(2);
        // ba beside ab, read from the other end, is all RIGHT.
        due("sorts go by the row that is hidden now", x.judge(0, 2), 8);
        x.hide(0);
        due("sorts by a row of which nobody tells 20", x.judge(0, 2), 0);
        JudgedRows full = Games.of("22;jc;ab");
        for (int many = 0; many < 12; many++) {
            full.show(0, 0);
        }
        due("sorts of 12 that are alike", full.judge(0, 2), 9);
        due("sorts of the other", full.judge(1, 2), 31);
    }

    private static void tests() {
        // One peg, a hidden: of a 10 (j, w) or 1; of b all tell 0.
        JudgedRows one = Games.of("12;j;a");
        due("test of all, one peg", one.judge(0, 3), 0);
        one.hide(1);
        due("test of all, one peg, b hidden", one.judge(0, 3), 1);
        one.note(0, 0, 1);
        due("test of none", one.judge(0, 3), NONE);
        JudgedRows x = Games.of("22;jc;ab");
        due("test of all", x.judge(0, 3), 2);
        x.note(0, 0, 10);
        due("test of j and w", x.judge(0, 3), 1);
        due("test of the other: all", x.judge(1, 3), 2);
        x.forget();
        x.note(0, 0, 1);
        // s, t and c: aa leaves three, ab two (2, 2, 0), ba two (2, 0, 0): the least of like ones.
        due("test of s, t and c", x.judge(0, 3), 1);
        x.note(1, 0, 2);
        due("test of s and t", x.judge(0, 3), 2);
        x.note(2, 0, 0);
        due("test of t alone: the least row", x.judge(0, 3), 0);
        x.note(2, 0, 40);
        due("test of none", x.judge(0, 3), NONE);
    }

    private static void twins() {
        String[] plain = {"j", "t", "w"};
        for (String kind : plain) {
            for (int pegs = 1; pegs <= 3; pegs++) {
                for (int colours = 2; colours <= 6; colours++) {
                    String text = "" + pegs + colours + ";" + kind + ";" + "aaa".substring(0, pegs);
                    due("twins of " + text, Games.of(text).judge(0, 4), NONE);
                }
            }
        }
        for (int colours = 2; colours <= 6; colours++) {
            due("twins: s, one peg", Games.of("1" + colours + ";s;a").judge(0, 4), NONE);
            due("twins: c, one peg", Games.of("1" + colours + ";c;a").judge(0, 4), NONE);
            // ab and ba, aab and aba: the lesser is 1, the other as many as there are colours.
            due("twins: s, two pegs", Games.of("2" + colours + ";s;ab").judge(0, 4), 1000 + colours);
            due("twins: s, three pegs", Games.of("3" + colours + ";s;aba").judge(0, 4), 1000 + colours);
        }
        due("twins: c, aa and bb", Games.of("22;c;ab").judge(0, 4), 3);
        // aaa and abb: by 0, 1, 2, 3 a's of what is shown 0, 1, 2, 3 and 2, 3, 2, 1 are alike.
        due("twins: c, aaa and abb", Games.of("32;c;aab").judge(0, 4), 3);
        // With a third colour ac parts aa from bb, and bcc parts aaa from abb: the first twins are those of a short one.
        for (int colours = 3; colours <= 6; colours++) {
            due("twins: c, two pegs", Games.of("2" + colours + ";c;ab").judge(0, 4), 1000 + colours);
            due("twins: c, three pegs", Games.of("3" + colours + ";c;aba").judge(0, 4), 1000 + colours);
        }
        JudgedRows x = Games.of("22;j;ab");
        due("twins: j", x.judge(0, 4), NONE);
        x.swap(0, 1);
        due("twins go by the kind he is of now", x.judge(0, 4), 1002);
        x.note(0, 0, 40);
        due("twins when none fits", x.judge(0, 4), 1002);
    }

    // ---- promise 7

    private static void casts() {
        int[] alsoOf = {1, 3, 5, 9, 19};
        JudgedRows x = Games.of("12;jst;a");
        for (int judge = 0; judge < 3; judge++) {
            for (int kind = 0; kind < 5; kind++) {
                x.swap(judge, kind);
                for (int as = 0; as < 5; as++) {
                    boolean is = (alsoOf[kind] >> as & 1) == 1;
                    due("kind " + kind + " as " + as, x.as(judge, as), is ? judge : NONE);
                }
            }
        }
    }

    // ---- promise 8

    private static void coloursOfRows() {
        for (int pegs = 1; pegs <= 3; pegs++) {
            for (int colours = 2; colours <= 6; colours++) {
                JudgedRows x = Games.of("" + pegs + colours + ";j;" + "bbb".substring(0, pegs));
                int last = x.count(2) - 1;
                for (int what = 1; what <= 3; what++) {
                    due(pegs + " pegs: row(0, " + what + ")", x.row(0, what), what <= pegs ? 0 : NONE);
                    due(pegs + " pegs: row(last, " + what + ")", x.row(last, what), what <= pegs ? colours - 1 : NONE);
                }
                due(pegs + " pegs: row(1, the last peg)", x.row(1, pegs), 1);
                due(pegs + " pegs: row(last + 1, 0)", x.row(last + 1, 0), UNKNOWN);
            }
        }
        JudgedRows x = Games.of("36;j;aaa");
        for (int row : new int[] {5, 6, 35, 36, 123, 179, 180}) {
            due("row(" + row + ", 1)", x.row(row, 1), row / 36);
            due("row(" + row + ", 2)", x.row(row, 2), row / 6 % 6);
            due("row(" + row + ", 3)", x.row(row, 3), row % 6);
        }
    }

    private static void hiddenRow() {
        JudgedRows x = Games.of("22;j;ab");
        for (int hidden = 0; hidden < 4; hidden++) {
            x.hide(hidden);
            for (int row = 0; row < 4; row++) {
                due("row(" + row + ", 4), " + hidden + " hidden", x.row(row, 4), row == hidden ? 1 : 0);
            }
        }
    }

    private static void fittingRows() {
        JudgedRows x = Games.of("22;jc;ab");
        int[][] due = {{1, 1, 1, 1}, {0, 1, 1, 0}, {0, 1, 0, 0}, {0, 0, 0, 0}};
        for (int many = 0; many < 4; many++) {
            for (int row = 0; row < 4; row++) {
                due("row(" + row + ", 0) behind " + many, x.row(row, 0), due[many][row]);
            }
            if (many < 2) {
                x.show(many, 0);
            } else {
                x.note(0, 1, 40);
            }
        }
    }

    // ---- promise 9

    private static void leastAndMostTold() {
        int[] most = {30, 3, 3, 30, 1};
        for (int kind = 0; kind < 5; kind++) {
            JudgedRows x = Games.of("36;" + KINDS.charAt(kind) + ";abf");
            due("kind " + kind + " tells all of fff", x.tells(0, 215, 215), most[kind]);
            due("kind " + kind + " tells all of aaa", x.tells(0, 0, 0), most[kind]);
            due("kind " + kind + " tells nothing", x.tells(0, 0, 215), 0);
            due("kind " + kind + " tells nothing, the other way", x.tells(0, 215, 0), 0);
        }
        // aab beside abb: RIGHT 2, ALIKE 2; baa beside abb, and bba beside aab: none is RIGHT, an a and a b are elsewhere.
        due("j: aab beside abb", Games.of("32;j;aaa").tells(0, 1, 3), 20);
        due("w: aab beside abb", Games.of("32;w;aaa").tells(0, 1, 3), 2);
        due("w: abb beside aab", Games.of("32;w;aaa").tells(0, 3, 1), 2);
        // abc beside bca: none is RIGHT, all are ALIKE; cba beside bca: the last one is RIGHT.
        due("j: abc beside bca", Games.of("33;j;aaa").tells(0, 5, 15), 3);
        due("w: abc beside bca", Games.of("33;w;aaa").tells(0, 5, 15), 12);
        due("c: three are odd", Games.of("33;c;aaa").tells(0, 5, 15), 1);
        due("c: two are not: aab beside bba", Games.of("33;c;aaa").tells(0, 1, 12), 0);
    }

    private static void toldOfSmallRows() {
        for (int kind = 0; kind < 5; kind++) {
            JudgedRows x = Games.of("22;" + KINDS.charAt(kind) + ";bb");
            for (int row = 0; row < 4; row++) {
                due("kind " + kind + " of " + row + " beside ab", x.tells(0, row, 1), TOLD[kind][row]);
            }
            JudgedRows one = Games.of("16;" + KINDS.charAt(kind) + ";a");
            due("kind " + kind + ", one peg", one.tells(0, 5, 5), kind == 0 || kind == 3 ? 10 : 1);
            due("kind " + kind + ", one peg, another one", one.tells(0, 5, 4), 0);
        }
    }

    private static void tellsByKindsAlone() {
        JudgedRows x = Games.of("22;jc;ab");
        x.note(1, 0, 40);
        x.hide(3);
        long before = x.digest();
        due("tells(0, 1, 1), whatever was told and is hidden", x.tells(0, 1, 1), 20);
        due("tells() changes nothing", x.digest(), before);
        x.swap(0, 2);
        due("tells(0, 1, 1) behind swap()", x.tells(0, 1, 1), 2);
    }

    // ---- promise 10

    private static void seenFromFirstToLast() {
        JudgedRows x = Games.of("36;jst;abf");
        due("seen(0, 0) of nothing", x.seen(0, 0), UNKNOWN);
        due("seen(0, 3) of nothing: UNKNOWN is first", x.seen(0, 3), UNKNOWN);
        for (int many = 0; many < 12; many++) {
            x.note(215 - many, many % 3, 40 - many);
            due("seen(" + many + ", 0)", x.seen(many, 0), 215 - many);
            due("seen(" + many + ", 1)", x.seen(many, 1), many % 3);
            due("seen(" + many + ", 2)", x.seen(many, 2), 40 - many);
            due("seen(" + (many + 1) + ", 2)", x.seen(many + 1, 2), UNKNOWN);
            due("the first stays", x.seen(0, 2), 40);
        }
        due("seen(11, 3)", x.seen(11, 3), OUTSIDE);
        x.strike();
        due("seen(11, 0) behind strike()", x.seen(11, 0), UNKNOWN);
        due("seen(10, 0) behind strike()", x.seen(10, 0), 205);
        x.forget();
        due("seen(0, 0) behind forget()", x.seen(0, 0), UNKNOWN);
    }
}
