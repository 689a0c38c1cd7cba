import java.util.ArrayList;
import java.util.List;

/** Promises 24 to 27 at their bounds: what is told of all. What is due was worked out by hand. */
public final class AllBoundsTest {
    private static final int NONE = Games.NONE, UNKNOWN = Games.UNKNOWN, OUTSIDE = Games.OUTSIDE;
    private static final int STATE = Games.STATE, FULL = Games.FULL;
    private static final Due DUE = new Due();

    public static void main(String[] args) {
        imageOfEachSize();
        theLatestImage();
        imageIsNoOther();
        imageKeepsEachThing();
        restoreLeavesTheRest();
        imageOfAnotherGame();
        restoreIsFull();
        countsFromEmptyToFull();
        countsOutside();
        digestOfEachState();
        digestOfThePage();
        readingChangesNothing();
        all512Calls();
        DUE.end();
    }

    private static void due(String call, long got, long want) {
        DUE.is(call, got, want);
    }

    // ---- promises 24 and 25

    private static void imageOfEachSize() {
        for (int many = 0; many <= 12; many++) {
            JudgedRows x = Games.of("22;jc;ab");
            due("restore() of no image", x.restore(), STATE);
            for (int shown = 0; shown < many; shown++) {
                x.note(shown % 4, shown % 2, shown);
            }
            long before = x.digest();
            due("image() of " + many, x.image(), many);
            due("image() changes nothing", x.digest(), before);
            x.forget();
            x.note(3, 0, 40);
            due("restore() of " + many, x.restore(), many);
            due("restore() of " + many + " brings all back", x.digest(), before);
        }
    }

    private static void theLatestImage() {
        JudgedRows x = Games.of("22;jc;ab");
        x.show(0, 0);
        x.show(1, 0);
        due("image() of two", x.image(), 2);
        x.forget();
        due("image() of none", x.image(), 0);
        x.show(2, 1);
        due("restore(): the latest", x.restore(), 0);
        due("nothing is shown", x.seen(0, 0), UNKNOWN);
    }

    private static void imageIsNoOther() {
        JudgedRows x = Games.of("22;jc;ab");
        x.show(0, 0);
        x.image();
        long kept = x.digest();
        for (int round = 0; round < 3; round++) {
            x.strike();
            x.note(3, 1, 7 + round);
            x.hide(round);
            x.swap(0, 1 + round);
            due("restore() the " + (round + 1) + "th time", x.restore(), 1);
            due("what is done behind it does not change the image", x.digest(), kept);
        }
    }

    private static void imageKeepsEachThing() {
        JudgedRows x = Games.of("22;jst;ab");
        x.note(3, 2, 9);
        x.image();
        x.hide(0);
        x.restore();
        due("the hidden row is back", x.count(5), 1);
        for (int judge = 0; judge < 3; judge++) {
            x.swap(judge, 4);
            x.restore();
            due("the kind of " + judge + " is back", x.judge(judge, 0), judge);
        }
        x.forget();
        x.show(1, 0);
        x.restore();
        due("the row is back", x.seen(0, 0), 3);
        due("the judge is back", x.seen(0, 1), 2);
        due("what he told is back", x.seen(0, 2), 9);
        x.show(1, 0);
        x.restore();
        due("what was shown since is gone", x.seen(1, 0), UNKNOWN);
    }

    private static void restoreLeavesTheRest() {
        JudgedRows x = Games.of("22;js;ab");
        Games.write(x, "36");
        x.image();
        Games.write(x, ";");
        x.best(0, 0);
        x.howLong(0, 0);
        x.parts(0, 0);
        long before = x.digest();
        due("restore()", x.restore(), 0);
        due("restore() leaves the page and how often was done", x.digest(), before);
        x.blank();
        x.restore();
        due("restore() brings no letters back", x.count(6), 0);
    }

    private static void imageOfAnotherGame() {
        JudgedRows x = Games.of("36;jst;fff");
        x.show(215, 2);
        x.image();
        Games.write(x, "12;j;a");
        due("restore() ahead of game()", x.restore(), 1);
        due("game()", x.game(), 2);
        long before = x.digest();
        due("restore() behind another game", x.restore(), STATE);
        due("restore() behind another game changes nothing", x.digest(), before);
        due("image() of the other game", x.image(), 0);
        x.show(0, 0);
        due("restore() of the other game", x.restore(), 0);
        Games.write(x, "36;jst;fff");
        x.game();
        due("restore() behind the first game's text", x.restore(), STATE);
        due("image() without a game", Games.page("12;j;a").image(), STATE);
        due("restore() without a game", Games.page("12;j;a").restore(), STATE);
    }

    private static void restoreIsFull() {
        JudgedRows x = Games.of("22;jc;ab");
        for (int many = 0; many < 12; many++) {
            x.show(1, 0);
        }
        due("image() of 12", x.image(), 12);
        x.forget();
        x.show(1, 0);
        due("restore() of 12", x.restore(), 12);
        due("show() then", x.show(1, 0), FULL);
        due("note() then", x.note(1, 0, 20), FULL);
        due("strike() then", x.strike(), 11);
        due("restore() again", x.restore(), 12);
    }

    // ---- promise 26

    private static void countsFromEmptyToFull() {
        JudgedRows x = new JudgedRows();
        counts("new", x, 0, 0, 0, 0, 0, NONE, 0, 0, 0, 0, 0);
        Games.write(x, "36;jst;fff");
        counts("a page", x, 0, 0, 0, 0, 0, NONE, 10, 0, 0, 0, 0);
        x.game();
        counts("a game", x, 3, 6, 216, 3, 0, 215, 0, 1, 0, 0, 0);
        Games.write(x, "12;c;a");
        x.game();
        counts("the least game", x, 1, 2, 2, 1, 0, 0, 0, 2, 0, 0, 0);
        Games.write(x, "22;jc;abab");
        x.game();
        counts("a game that was refused", x, 1, 2, 2, 1, 0, 0, 10, 2, 0, 0, 0);
        Games.write(x, "abc");
        for (int many = 0; many < 30; many++) {
            x.best(0, 0);
            x.howLong(0, 0);
            x.parts(0, 0);
            x.show(0, 0);
        }
        counts("all is full", x, 1, 2, 2, 1, 12, 0, 12, 2, 24, 6, 9);
        x.hide(1);
        x.blank();
        x.forget();
        counts("all is empty again", x, 1, 2, 2, 1, 0, 1, 0, 2, 24, 6, 9);
    }

    private static void counts(String name, JudgedRows x, int... due) {
        for (int what = 0; what < due.length; what++) {
            due(name + ": count(" + what + ")", x.count(what), due[what]);
        }
    }

    private static void countsOutside() {
        JudgedRows x = Games.of("12;j;a");
        for (int what : new int[] {-1, 11, 12, 255, 256, Games.LEAST, Games.MOST}) {
            due("count(" + what + ")", x.count(what), OUTSIDE);
            due("count(" + what + ") without a game", new JudgedRows().count(what), OUTSIDE);
        }
    }

    // ---- promise 27

    private static void digestOfEachState() {
        // An object for each state: putting a digest together takes many calls.
        for (int many = 0; many <= 12; many++) {
            digest("behind " + many, shown(many), "");
        }
        JudgedRows swapped = shown(12);
        swapped.swap(1, 3);
        digest("behind swap()", swapped, "");
        swapped.hide(3);
        digest("behind hide()", swapped, "");
        swapped.best(0, 0);
        swapped.howLong(0, 0);
        swapped.parts(0, 0);
        Games.write(swapped, "~22;");
        digest("with a page", swapped, "~22;");
        JudgedRows none = Games.of("36;jwt;abf");
        none.note(215, 0, 40);
        digest("when none fits", none, "");
    }

    private static JudgedRows shown(int many) {
        JudgedRows x = Games.of("22;jsc;ab");
        for (int number = 0; number < many; number++) {
            x.show(number % 4, number % 3);
        }
        return x;
    }

    /** As the document puts it together, from what the other calls tell. */
    private static void digest(String name, JudgedRows x, String page) {
        List<Integer> numbers = new ArrayList<>();
        for (int judge = 0; judge < x.count(3); judge++) {
            for (int what = 0; what <= 3; what++) {
                numbers.add(x.judge(judge, what));
            }
            numbers.add(x.rest(0, judge, 0));
            numbers.add(x.rest(0, judge, 1));
        }
        for (int number = 0; x.seen(number, 0) != UNKNOWN; number++) {
            for (int what = 0; what <= 2; what++) {
                numbers.add(x.seen(number, what));
            }
        }
        numbers.add(x.left());
        numbers.add(x.fits(0));
        for (int at = 0; at < page.length(); at++) {
            numbers.add((int) page.charAt(at));
        }
        for (int what = 0; what <= 10; what++) {
            numbers.add(x.count(what));
        }
        int[] all = numbers.stream().mapToInt(each -> each).toArray();
        due("digest() " + name, x.digest(), Games.sum(all));
    }

    private static void digestOfThePage() {
        JudgedRows x = new JudgedRows();
        due("digest() of nothing", x.digest(), Games.sum(0, 0, 0, 0, 0, -1, 0, 0, 0, 0, 0));
        x.letter(126);
        due("digest() of one letter", x.digest(), Games.sum(126, 0, 0, 0, 0, 0, -1, 1, 0, 0, 0, 0));
        x.letter(1);
        due("digest() of two letters", x.digest(), Games.sum(126, 1, 0, 0, 0, 0, 0, -1, 2, 0, 0, 0, 0));
        Games.write(x, "abcdefghij");
        due("digest() of a full page", x.digest(), Games.sum(
            126, 1, 'a', 'b', 'c', 'd', 'e', 'f', 'g', 'h', 'i', 'j', 0, 0, 0, 0, 0, -1, 12, 0, 0, 0, 0));
        x.blank();
        due("digest() behind blank()", x.digest(), Games.sum(0, 0, 0, 0, 0, -1, 0, 0, 0, 0, 0));
    }

    private static void readingChangesNothing() {
        JudgedRows x = Games.of("33;jwc;bca");
        x.show(7, 2);
        x.image();
        x.show(19, 1);
        Games.write(x, "12;");
        long before = x.digest();
        for (int what = 0; what <= 4; what++) {
            x.judge(1, what);
            due("judge(1, " + what + ") changes nothing", x.digest(), before);
            x.as(2, what);
            due("as(2, " + what + ") changes nothing", x.digest(), before);
            x.row(9, what);
            due("row(9, " + what + ") changes nothing", x.digest(), before);
        }
        x.tells(0, 5, 6);
        x.seen(1, 2);
        x.left();
        x.fits(1);
        x.rest(4, 1, 0);
        x.tries(1, 20, 77, 0);
        x.fault();
        x.count(5);
        due("these change nothing", x.digest(), before);
        x.best(1, 0);
        x.howLong(1, 6);
        x.parts(1, 0);
        due("best() changes its count alone, as howLong() and parts() do", x.digest() - before, 31 * 31 + 31 + 1);
        due("the image stays", x.restore(), 1);
    }

    private static void all512Calls() {
        JudgedRows x = Games.of("36;jwc;abf");
        for (int calls = 11; calls < 511; calls++) {
            due("call " + calls + ": tells(0, 0, 11)", x.tells(0, 0, 11), 10);
        }
        due("the 512th call", x.left(), 216);
    }
}
