/** Promises 11 to 16 at their bounds: what is done. What is due was worked out by hand. */
public final class DoneBoundsTest {
    private static final int NONE = Games.NONE, UNKNOWN = Games.UNKNOWN, OUTSIDE = Games.OUTSIDE;
    private static final int STATE = Games.STATE, FULL = Games.FULL;
    private static final Due DUE = new Due();

    public static void main(String[] args) {
        shownByEachKind();
        firstAndLastRow();
        showTillFull();
        showAndNoteTillFull();
        noted();
        noteTillFull();
        noteIsNotShow();
        strikeTillEmpty();
        strikeGivesRoom();
        forgets();
        hides();
        hideChangesNothingTold();
        swaps();
        swapChangesNothingTold();
        DUE.end();
    }

    private static void due(String call, long got, long want) {
        DUE.is(call, got, want);
    }

    // ---- promise 11

    private static void shownByEachKind() {
        int[][] told = Games.TOLD_BESIDE_AB;
        for (int kind = 0; kind < 5; kind++) {
            JudgedRows x = Games.of("22;" + Games.KINDS.charAt(kind) + ";ab");
            for (int row = 0; row < 4; row++) {
                due("kind " + kind + ": show(" + row + ", 0)", x.show(row, 0), told[kind][row]);
                due("it is kept", x.seen(row, 2), told[kind][row]);
                due("the row is kept", x.seen(row, 0), row);
                due("the hidden one fits", x.row(1, 0), 1);
            }
        }
    }

    private static void firstAndLastRow() {
        // abf is hidden: the third of fff, the first of aaa is right; fff read from its other end is fff.
        JudgedRows x = Games.of("36;jwc;abf");
        due("show(215, 0)", x.show(215, 0), 10);
        due("show(0, 0)", x.show(0, 0), 10);
        due("show(215, 1)", x.show(215, 1), 10);
        due("show(215, 2)", x.show(215, 2), 1);
        due("show(216, 0)", x.show(216, 0), UNKNOWN);
        due("show(215, 3)", x.show(215, 3), UNKNOWN);
        due("show(11, 0): the hidden one", x.show(11, 0), 30);
        due("it alone is left", x.left(), 1);
        // fba beside abf: b is right, a and f are elsewhere; from its other end all are right.
        due("show(186, 0)", x.show(186, 0), 12);
        due("show(186, 1)", x.show(186, 1), 30);
        due("show(186, 2)", x.show(186, 2), 1);
    }

    private static void showTillFull() {
        JudgedRows x = Games.of("22;jc;ab");
        for (int round = 0; round < 3; round++) {
            for (int many = 1; many <= 12; many++) {
                due("show() with " + (many - 1), x.show(1, 0), 20);
                due("shown then", x.count(4), many);
            }
            long before = x.digest();
            due("show() with 12", x.show(1, 0), FULL);
            due("show() with 12, another row to another judge", x.show(3, 1), FULL);
            due("show() with 12 changes nothing", x.digest(), before);
            if (round == 0) {
                x.strike();
                due("show() behind strike()", x.show(0, 1), 1);
                due("show() with 12 again", x.show(1, 0), FULL);
            }
            due("forget() of 12", x.forget(), 12);
        }
    }

    private static void showAndNoteTillFull() {
        JudgedRows x = Games.of("22;jc;ab");
        for (int many = 0; many < 6; many++) {
            due("show()", x.show(0, 0), 10);
            due("note()", x.note(0, 0, 10), 2);
        }
        due("show() with 12 of both", x.show(0, 0), FULL);
        due("note() with 12 of both", x.note(0, 0, 10), FULL);
    }

    // ---- promise 12

    private static void noted() {
        JudgedRows x = Games.of("22;j;ab");
        int[] told = {0, 1, 2, 10, 20, 30, 39, 40};
        int[] left = {1, 0, 0, 2, 1, 0, 0, 0};
        for (int at = 0; at < told.length; at++) {
            due("note(0, 0, " + told[at] + ")", x.note(0, 0, told[at]), left[at]);
            due("it is kept as told", x.seen(0, 2), told[at]);
            due("LEFT is what left() tells", x.left(), left[at]);
            x.strike();
        }
        long before = x.digest();
        due("note(0, 0, 41)", x.note(0, 0, 41), OUTSIDE);
        due("note(0, 0, -1)", x.note(0, 0, -1), OUTSIDE);
        due("note(0, 0, least)", x.note(0, 0, Games.LEAST), OUTSIDE);
        due("note(0, 0, most)", x.note(0, 0, Games.MOST), OUTSIDE);
        due("a refused note changes nothing", x.digest(), before);
        due("note() of what tells all", Games.of("36;j;aaa").note(215, 0, 30), 1);
        due("note() of what tells nothing", Games.of("36;j;aaa").note(215, 0, 0), 125);
    }

    private static void noteTillFull() {
        JudgedRows x = Games.of("22;jc;ab");
        for (int many = 1; many <= 11; many++) {
            due("note() with " + (many - 1), x.note(1, 1, 0), 2);
        }
        due("note() with 11", x.note(1, 0, 20), 1);
        long before = x.digest();
        due("note() with 12", x.note(1, 0, 20), FULL);
        due("note(1, 0, 41) with 12: OUTSIDE is first", x.note(1, 0, 41), OUTSIDE);
        due("note(1, 0, -1) with 12: OUTSIDE is first", x.note(1, 0, -1), OUTSIDE);
        due("note(4, 0, 0) with 12: UNKNOWN is first", x.note(4, 0, 0), UNKNOWN);
        due("note(1, 2, 41) with 12: UNKNOWN is first", x.note(1, 2, 41), UNKNOWN);
        due("note() with 12 changes nothing", x.digest(), before);
        due("12 are noted", x.count(4), 12);
    }

    private static void noteIsNotShow() {
        JudgedRows x = Games.of("22;j;ab");
        due("note() of what he would not tell", x.note(1, 0, 2), 1);
        due("another one fits", x.fits(0), 2);
        due("the hidden row does not", x.row(1, 0), 0);
        due("the hidden row stays", x.count(5), 1);
        due("show() still goes by it", x.show(1, 0), 20);
        due("none fits both", x.left(), 0);
    }

    // ---- promise 13

    private static void strikeTillEmpty() {
        JudgedRows x = Games.of("22;jc;ab");
        for (int many = 0; many < 12; many++) {
            x.note(many % 4, many % 2, many);
        }
        for (int many = 11; many >= 0; many--) {
            due("strike() with " + (many + 1), x.strike(), many);
            due("it is gone", x.seen(many, 2), UNKNOWN);
            due("the one ahead of it stays", x.seen(many - 1, 2), many == 0 ? UNKNOWN : many - 1);
        }
        long before = x.digest();
        due("strike() with none", x.strike(), STATE);
        due("strike() with none again", x.strike(), STATE);
        due("strike() with none changes nothing", x.digest(), before);
        due("left() then", x.left(), 4);
    }

    private static void strikeGivesRoom() {
        JudgedRows x = Games.of("22;jc;ab");
        long before = x.digest();
        x.show(2, 0);
        due("strike() of one", x.strike(), 0);
        due("all is as it was", x.digest(), before);
        x.note(0, 0, 40);
        due("none is left", x.left(), 0);
        x.strike();
        due("all are left behind strike()", x.left(), 4);
        due("fits(0) behind strike()", x.fits(0), 0);
    }

    // ---- promise 14

    private static void forgets() {
        due("forget() without a game", new JudgedRows().forget(), 0);
        for (int many = 0; many <= 12; many++) {
            JudgedRows x = Games.of("22;jc;ab");
            x.hide(2);
            x.swap(0, 3);
            Games.write(x, "1");
            long before = x.digest();
            for (int shown = 0; shown < many; shown++) {
                x.note(0, 1, 40);
            }
            x.image();
            due("forget() of " + many, x.forget(), many);
            due("forget() of " + many + " leaves the rest", x.digest(), before);
            due("forget() again", x.forget(), 0);
            due("strike() behind it", x.strike(), STATE);
            due("the image stays", x.restore(), many);
        }
    }

    // ---- promise 15

    private static void hides() {
        JudgedRows x = Games.of("36;j;abf");
        due("hide(0)", x.hide(0), 11);
        due("hide(215)", x.hide(215), 0);
        due("hide(215) again", x.hide(215), 215);
        due("hide(216)", x.hide(216), UNKNOWN);
        due("hide(-1)", x.hide(-1), UNKNOWN);
        due("hide(least)", x.hide(Games.LEAST), UNKNOWN);
        due("hide(most)", x.hide(Games.MOST), UNKNOWN);
        due("the hidden row", x.count(5), 215);
        JudgedRows least = Games.of("12;j;a");
        due("hide(1) of two", least.hide(1), 0);
        due("hide(2) of two", least.hide(2), UNKNOWN);
    }

    private static void hideChangesNothingTold() {
        JudgedRows x = Games.of("22;j;ab");
        x.show(1, 0);
        due("hide(2)", x.hide(2), 1);
        due("what was told stays", x.seen(0, 2), 20);
        due("what fits stays", x.fits(0), 1);
        due("left stays", x.left(), 1);
        due("row(2, 4)", x.row(2, 4), 1);
        due("row(1, 4)", x.row(1, 4), 0);
        due("show() goes by the new one", x.show(1, 0), 2);
        due("none is left", x.left(), 0);
        due("hide(1)", x.hide(1), 2);
        due("still none is left", x.left(), 0);
    }

    // ---- promise 16

    private static void swaps() {
        JudgedRows x = Games.of("22;jst;ab");
        int was = 2;
        for (int from = 0; from < 5; from++) {
            for (int to = 0; to < 5; to++) {
                due("swap(2, " + from + ")", x.swap(2, from), was);
                due("swap(2, " + to + ")", x.swap(2, to), from);
                due("his kind then", x.judge(2, 0), to);
                was = to;
            }
        }
        due("the first one's kind stays", x.judge(0, 0), 0);
        due("the second one's kind stays", x.judge(1, 0), 1);
        long before = x.digest();
        due("swap(3, 0)", x.swap(3, 0), UNKNOWN);
        due("swap(3, 5): UNKNOWN is first", x.swap(3, 5), UNKNOWN);
        due("swap(2, 5)", x.swap(2, 5), OUTSIDE);
        due("swap(2, -1)", x.swap(2, -1), OUTSIDE);
        due("a refused swap changes nothing", x.digest(), before);
    }

    private static void swapChangesNothingTold() {
        JudgedRows x = Games.of("22;jj;ab");
        x.show(0, 0);
        x.show(1, 1);
        due("left", x.left(), 1);
        x.swap(0, 3);
        due("a wrong one tells 10 of aa, too", x.left(), 1);
        x.swap(1, 3);
        // 20 of ab, read from its other end, is what ba asks.
        due("left by the new kinds", x.left(), 1);
        due("what fits by the new kinds", x.fits(0), 2);
        due("what was told stays", x.seen(1, 2), 20);
        x.swap(1, 1);
        due("a short one never tells 20", x.left(), 0);
        due("no row fits", x.fits(0), NONE);
        due("sorts go by what he told", x.judge(1, 2), 1);
        x.swap(1, 0);
        due("back again", x.fits(0), 1);
    }
}
