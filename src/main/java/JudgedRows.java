/**
 * A hidden row of colours, rows that are shown to judges of kinds, and what follows from what they tell.
 * All that a call needs is made in the constructor: no call makes an object.
 */
public final class JudgedRows {
    public static final int NONE = -1, UNKNOWN = -101, OUTSIDE = -102, STATE = -103, FULL = -104;

    private static final int MOST_LETTERS = 12;
    private static final int MOST_CODE = 126;
    private static final int MOST_PEGS = 3;
    private static final int MOST_COLOURS = 6;
    private static final int MOST_ROWS = 216;
    private static final int MOST_JUDGES = 3;
    private static final int MOST_SHOWN = 12;
    private static final int MOST_TOLD = 40;
    private static final int WORDS = 10 * MOST_PEGS + 1;
    private static final int MOST_TIMES = 20;
    private static final int MOST_ROWS_TO_PART = 64;
    private static final int MOST_BEST = 24;
    private static final int MOST_LONG = 6;
    private static final int MOST_PARTS = 9;
    private static final int LONGEST = 8;
    private static final int COUNTS = 11;

    private static final int SHORT = 1, STERN = 2, WRONG = 3, CURT = 4, KINDS = 5;
    private static final String KIND_LETTERS = "jstwc";

    private final Page page = new Page();
    private final Judge[] kinds = {
        new Judge(), new ShortJudge(), new SternJudge(), new WrongJudge(), new CurtJudge()
    };
    private final int[] words = new int[KINDS];
    private final Course now = new Course();
    private final Course kept = new Course();
    private final Rows rows;
    private final Pool pool;
    private final Parting parting;
    private final Tries trial;
    private int judges;
    private boolean imageStands;
    private int gamesRead;
    private int bestDone;
    private int longDone;
    private int partsDone;

    public JudgedRows() {
        Rows allRows = new Rows();
        Pool rowsLeft = new Pool(allRows);
        rows = allRows;
        pool = rowsLeft;
        parting = new Parting(allRows);
        trial = new Tries(allRows, rowsLeft);
    }

    // ---- the game

    public int letter(int code) {
        if (code < 1 || code > MOST_CODE) {
            return OUTSIDE;
        }
        if (page.size >= MOST_LETTERS) {
            return FULL;
        }
        page.append(code);
        return page.size;
    }

    public int blank() {
        int had = page.size;
        page.size = 0;
        return had;
    }

    public int fault() {
        return page.firstFault();
    }

    public int game() {
        if (!page.isGame()) {
            return STATE;
        }
        rows.lay(page.pegs(), page.colours());
        judges = page.judgesWritten();
        for (int judge = 0; judge < judges; judge++) {
            now.kinds[judge] = page.kindWritten(judge);
        }
        now.hidden = page.rowWritten();
        now.size = 0;
        imageStands = false;
        gamesRead++;
        page.size = 0;
        return rows.size;
    }

    public int judge(int judge, int what) {
        if (!isJudge(judge)) {
            return UNKNOWN;
        }
        switch (what) {
            case 0:
                return now.kinds[judge];
            case 1:
                return now.shownTo(judge);
            case 2:
                return sorts(judge);
            case 3:
                return testFor(sorts(judge));
            case 4:
                return rows.twins(judgeAt(judge));
            default:
                return OUTSIDE;
        }
    }

    public int as(int judge, int kind) {
        if (!isJudge(judge)) {
            return UNKNOWN;
        }
        if (!isKind(kind)) {
            return OUTSIDE;
        }
        return isOf(judgeAt(judge), kind) ? judge : NONE;
    }

    public int row(int row, int what) {
        if (!isRow(row)) {
            return UNKNOWN;
        }
        if (what < 0 || what > MOST_PEGS + 1) {
            return OUTSIDE;
        }
        if (what == 0) {
            return fitting(row) ? 1 : 0;
        }
        if (what > MOST_PEGS) {
            return row == now.hidden ? 1 : 0;
        }
        return what <= rows.pegs ? rows.colour(row, what - 1) : NONE;
    }

    public int tells(int judge, int shown, int hidden) {
        if (!isJudge(judge) || !isRow(shown) || !isRow(hidden)) {
            return UNKNOWN;
        }
        return judgeAt(judge).word(rows, shown, hidden);
    }

    public int seen(int number, int what) {
        if (number < 0 || number >= now.size) {
            return UNKNOWN;
        }
        switch (what) {
            case 0:
                return now.rowOf[number];
            case 1:
                return now.judgeOf[number];
            case 2:
                return now.toldOf[number];
            default:
                return OUTSIDE;
        }
    }

    // ---- what is done

    public int show(int row, int judge) {
        if (!isRow(row) || !isJudge(judge)) {
            return UNKNOWN;
        }
        if (now.size >= MOST_SHOWN) {
            return FULL;
        }
        int told = judgeAt(judge).word(rows, row, now.hidden);
        now.append(row, judge, told);
        return told;
    }

    public int note(int row, int judge, int told) {
        if (!isRow(row) || !isJudge(judge)) {
            return UNKNOWN;
        }
        if (told < 0 || told > MOST_TOLD) {
            return OUTSIDE;
        }
        if (now.size >= MOST_SHOWN) {
            return FULL;
        }
        now.append(row, judge, told);
        return gatherFitting();
    }

    public int strike() {
        if (now.size == 0) {
            return STATE;
        }
        now.size--;
        return now.size;
    }

    public int forget() {
        int had = now.size;
        now.size = 0;
        return had;
    }

    public int hide(int row) {
        if (!isRow(row)) {
            return UNKNOWN;
        }
        int was = now.hidden;
        now.hidden = row;
        return was;
    }

    public int swap(int judge, int kind) {
        if (!isJudge(judge)) {
            return UNKNOWN;
        }
        if (!isKind(kind)) {
            return OUTSIDE;
        }
        int was = now.kinds[judge];
        now.kinds[judge] = kind;
        return was;
    }

    // ---- what would be

    public int left() {
        return isGameOn() ? gatherFitting() : STATE;
    }

    public int fits(int number) {
        if (number < 0) {
            return OUTSIDE;
        }
        if (!isGameOn()) {
            return STATE;
        }
        return number < gatherFitting() ? pool.members[number] : NONE;
    }

    public int best(int judge, int what) {
        if (!isJudge(judge)) {
            return UNKNOWN;
        }
        if (what < 0 || what > 1) {
            return OUTSIDE;
        }
        if (bestDone >= MOST_BEST) {
            return STATE;
        }
        bestDone++;
        gatherFitting();
        int row = pool.bestRow(judgeAt(judge));
        if (what == 0) {
            return row;
        }
        return row == NONE ? 0 : pool.worst(judgeAt(judge), row);
    }

    public int rest(int row, int judge, int what) {
        if (!isRow(row) || !isJudge(judge)) {
            return UNKNOWN;
        }
        if (what < 0 || what > 1) {
            return OUTSIDE;
        }
        if (gatherFitting() == 0) {
            return what;
        }
        int above = pool.squares(judgeAt(judge), row);
        int shared = commonDivisor(above, pool.size);
        return (what == 0 ? above : pool.size) / shared;
    }

    public int howLong(int judge, int row) {
        if (!isJudge(judge) || !isRow(row)) {
            return UNKNOWN;
        }
        if (longDone >= MOST_LONG) {
            return STATE;
        }
        longDone++;
        Judge asked = judgeAt(judge);
        pool.fill();
        int behind = 0;
        for (; behind < LONGEST && pool.size > 1; behind++) {
            // There is always one: more than one row fits here.
            int shown = Math.max(pool.bestRow(asked), 0);
            pool.keep(asked, shown, asked.word(rows, shown, row));
        }
        return pool.size == 1 ? behind : NONE;
    }

    public int parts(int judge, int what) {
        if (!isJudge(judge)) {
            return UNKNOWN;
        }
        if (what < 0 || what > 2) {
            return OUTSIDE;
        }
        if (rows.size > MOST_ROWS_TO_PART || partsDone >= MOST_PARTS) {
            return STATE;
        }
        partsDone++;
        parting.find(judgeAt(judge));
        if (what == 0) {
            return parting.many;
        }
        return what == 1 ? parting.first : parting.second;
    }

    public int tries(int judge, int times, int seed, int what) {
        if (!isJudge(judge)) {
            return UNKNOWN;
        }
        if (times < 1 || times > MOST_TIMES || seed < 0 || what < 0 || what > 2) {
            return OUTSIDE;
        }
        trial.play(judgeAt(judge), times, seed);
        if (what == 0) {
            return trial.shown;
        }
        return what == 1 ? trial.quick : trial.seed;
    }

    // ---- what is told of all

    public int image() {
        if (!isGameOn()) {
            return STATE;
        }
        kept.take(now);
        imageStands = true;
        return kept.size;
    }

    public int restore() {
        if (!imageStands) {
            return STATE;
        }
        now.take(kept);
        return now.size;
    }

    public int count(int what) {
        switch (what) {
            case 0:
                return rows.pegs;
            case 1:
                return rows.colours;
            case 2:
                return rows.size;
            case 3:
                return judges;
            case 4:
                return now.size;
            case 5:
                return isGameOn() ? now.hidden : NONE;
            case 6:
                return page.size;
            case 7:
                return gamesRead;
            case 8:
                return bestDone;
            case 9:
                return longDone;
            case 10:
                return partsDone;
            default:
                return OUTSIDE;
        }
    }

    public long digest() {
        long sum = 1297;
        for (int judge = 0; judge < judges; judge++) {
            for (int what = 0; what < 4; what++) {
                sum = with(sum, judge(judge, what));
            }
            sum = with(with(sum, rest(0, judge, 0)), rest(0, judge, 1));
        }
        for (int number = 0; number < now.size; number++) {
            for (int what = 0; what < 3; what++) {
                sum = with(sum, seen(number, what));
            }
        }
        if (isGameOn()) {
            sum = with(with(sum, left()), fits(0));
        }
        for (int at = 0; at < page.size; at++) {
            sum = with(sum, page.codes[at]);
        }
        for (int what = 0; what < COUNTS; what++) {
            sum = with(sum, count(what));
        }
        return sum;
    }

    private static long with(long sum, int number) {
        return 31 * sum + number;
    }

    private boolean isGameOn() {
        return rows.size > 0;
    }

    private boolean isJudge(int judge) {
        return judge >= 0 && judge < judges;
    }

    private boolean isRow(int row) {
        return row >= 0 && row < rows.size;
    }

    private static boolean isKind(int kind) {
        return kind >= 0 && kind < KINDS;
    }

    private Judge judgeAt(int judge) {
        return kinds[now.kinds[judge]];
    }

    private static boolean isOf(Judge judge, int kind) {
        switch (kind) {
            case SHORT:
                return judge instanceof ShortJudge;
            case STERN:
                return judge instanceof SternJudge;
            case WRONG:
                return judge instanceof WrongJudge;
            case CURT:
                return judge instanceof CurtJudge;
            default:
                return true;
        }
    }

    private boolean fitting(int row) {
        for (int number = 0; number < now.size; number++) {
            Judge judge = judgeAt(now.judgeOf[number]);
            if (judge.word(rows, now.rowOf[number], row) != now.toldOf[number]) {
                return false;
            }
        }
        return true;
    }

    /** The pool is all that fit: how many. */
    private int gatherFitting() {
        pool.fill();
        for (int number = 0; number < now.size; number++) {
            pool.keep(judgeAt(now.judgeOf[number]), now.rowOf[number], now.toldOf[number]);
        }
        return pool.size;
    }

    private int sorts(int judge) {
        int bits = 0;
        for (int kind = 0; kind < KINDS; kind++) {
            if (couldBe(judge, kinds[kind])) {
                bits |= 1 << kind;
            }
        }
        return bits;
    }

    private boolean couldBe(int judge, Judge other) {
        for (int number = 0; number < now.size; number++) {
            if (now.judgeOf[number] == judge
                    && other.word(rows, now.rowOf[number], now.hidden) != now.toldOf[number]) {
                return false;
            }
        }
        return true;
    }

    private int testFor(int sorts) {
        int test = NONE;
        int least = KINDS + 1;
        for (int row = 0; row < rows.size && sorts != 0; row++) {
            int worst = worstSorts(sorts, row);
            if (worst < least) {
                least = worst;
                test = row;
            }
        }
        return test;
    }

    private int worstSorts(int sorts, int row) {
        int worst = 0;
        for (int kind = 0; kind < KINDS; kind++) {
            words[kind] = (sorts >> kind & 1) == 1 ? kinds[kind].word(rows, row, now.hidden) : NONE;
        }
        for (int kind = 0; kind < KINDS; kind++) {
            int like = 0;
            for (int other = 0; other < KINDS && words[kind] != NONE; other++) {
                if (words[other] == words[kind]) {
                    like++;
                }
            }
            worst = Math.max(worst, like);
        }
        return worst;
    }

    private static int commonDivisor(int above, int below) {
        int greater = above;
        int lesser = below;
        // Each two steps halve the lesser: 64 are more than any int needs.
        for (int step = 0; step < 64 && lesser != 0; step++) {
            int over = greater % lesser;
            greater = lesser;
            lesser = over;
        }
        return Math.max(greater, 1);
    }

    /** The letters that may become a game. */
    private static final class Page {
        private static final int KINDS_AT = 3;

        final int[] codes = new int[MOST_LETTERS];
        int size;

        void append(int code) {
            if (size < MOST_LETTERS) {
                codes[size] = code;
                size++;
            }
        }

        int firstFault() {
            for (int at = 0; at < size; at++) {
                if (!mayStand(at)) {
                    return at;
                }
            }
            return size;
        }

        boolean isGame() {
            int end = kindsEnd(size);
            return end != NONE && size == end + 1 + pegs() && firstFault() == size;
        }

        /** Whether the letter at this place may stand behind those ahead of it, all of which may. */
        private boolean mayStand(int at) {
            int code = codes[at];
            switch (at) {
                case 0:
                    return code >= '1' && code <= '0' + MOST_PEGS;
                case 1:
                    return code >= '2' && code <= '0' + MOST_COLOURS;
                case 2:
                    return code == ';';
                default:
                    break;
            }
            int end = kindsEnd(at);
            if (end != NONE) {
                return at <= end + pegs() && code >= 'a' && code < 'a' + colours();
            }
            if (code == ';') {
                return at > KINDS_AT;
            }
            return at < KINDS_AT + MOST_JUDGES && KIND_LETTERS.indexOf((char) code) >= 0;
        }

        /** The place of the ';' behind the kinds, if it stands ahead of the bound. */
        private int kindsEnd(int bound) {
            for (int at = KINDS_AT; at < bound; at++) {
                if (codes[at] == ';') {
                    return at;
                }
            }
            return NONE;
        }

        int pegs() {
            return codes[0] - '0';
        }

        int colours() {
            return codes[1] - '0';
        }

        int judgesWritten() {
            return kindsEnd(size) - KINDS_AT;
        }

        int kindWritten(int judge) {
            return KIND_LETTERS.indexOf((char) codes[KINDS_AT + judge]);
        }

        int rowWritten() {
            int row = 0;
            for (int at = kindsEnd(size) + 1; at < size; at++) {
                row = row * colours() + codes[at] - 'a';
            }
            return row;
        }
    }

    /** All rows of a game, as sets of bits, so that what two rows share is counted at once. */
    private static final class Rows {
        int pegs;
        int colours;
        int size;
        // A bit for each peg and colour.
        private final int[] places = new int[MOST_ROWS];
        private final int[] placesFromOtherEnd = new int[MOST_ROWS];
        // For each colour as many bits, from its lowest on, as there are pegs of it.
        private final int[] heaps = new int[MOST_ROWS];

        void lay(int pegs, int colours) {
            this.pegs = pegs;
            this.colours = colours;
            size = 1;
            for (int peg = 0; peg < pegs; peg++) {
                size *= colours;
            }
            for (int row = 0; row < size; row++) {
                layRow(row);
            }
        }

        private void layRow(int row) {
            int place = 0;
            int otherEnd = 0;
            int heap = 0;
            for (int peg = 0; peg < pegs; peg++) {
                int colour = colour(row, peg);
                place |= 1 << peg * MOST_COLOURS + colour;
                otherEnd |= 1 << (pegs - 1 - peg) * MOST_COLOURS + colour;
                heap = withOneMore(heap, colour);
            }
            places[row] = place;
            placesFromOtherEnd[row] = otherEnd;
            heaps[row] = heap;
        }

        private static int withOneMore(int heap, int colour) {
            int bit = 1 << colour * MOST_PEGS;
            for (int peg = 0; peg < MOST_PEGS && (heap & bit) != 0; peg++) {
                bit <<= 1;
            }
            return heap | bit;
        }

        int colour(int row, int peg) {
            if (colours < 1) {
                return NONE;
            }
            int figures = row;
            for (int behind = pegs - 1; behind > peg; behind--) {
                figures /= colours;
            }
            return figures % colours;
        }

        int right(int shown, int hidden) {
            return Integer.bitCount(places[shown] & places[hidden]);
        }

        int rightFromOtherEnd(int shown, int hidden) {
            return Integer.bitCount(placesFromOtherEnd[shown] & places[hidden]);
        }

        int alike(int shown, int hidden) {
            return Integer.bitCount(heaps[shown] & heaps[hidden]);
        }

        int twins(Judge judge) {
            for (int lesser = 0; lesser < size; lesser++) {
                for (int other = lesser + 1; other < size; other++) {
                    if (areTwins(judge, lesser, other)) {
                        return lesser * 1000 + other;
                    }
                }
            }
            return NONE;
        }

        boolean areTwins(Judge judge, int one, int other) {
            // From the one itself on, and round: most judges tell the two apart by it at once.
            for (int step = 0; step < size; step++) {
                int shown = one + step < size ? one + step : one + step - size;
                if (judge.word(this, shown, one) != judge.word(this, shown, other)) {
                    return false;
                }
            }
            return true;
        }
    }

    /** The plain judge, and what all judges are. */
    private static class Judge {
        int word(Rows rows, int shown, int hidden) {
            return plainWord(rows.right(shown, hidden), rows.alike(shown, hidden));
        }

        static int plainWord(int right, int alike) {
            return 10 * right + alike - right;
        }
    }

    private static class ShortJudge extends Judge {
        int word(Rows rows, int shown, int hidden) {
            return rows.alike(shown, hidden);
        }
    }

    private static final class SternJudge extends Judge {
        int word(Rows rows, int shown, int hidden) {
            return rows.right(shown, hidden);
        }
    }

    private static final class WrongJudge extends Judge {
        int word(Rows rows, int shown, int hidden) {
            return plainWord(rows.rightFromOtherEnd(shown, hidden), rows.alike(shown, hidden));
        }
    }

    private static final class CurtJudge extends ShortJudge {
        int word(Rows rows, int shown, int hidden) {
            return rows.alike(shown, hidden) & 1;
        }
    }

    /** What an image keeps: the kinds, the hidden row, what was shown and told. */
    private static final class Course {
        final int[] kinds = new int[MOST_JUDGES];
        final int[] rowOf = new int[MOST_SHOWN];
        final int[] judgeOf = new int[MOST_SHOWN];
        final int[] toldOf = new int[MOST_SHOWN];
        int hidden;
        int size;

        void append(int row, int judge, int told) {
            if (size < MOST_SHOWN) {
                rowOf[size] = row;
                judgeOf[size] = judge;
                toldOf[size] = told;
                size++;
            }
        }

        int shownTo(int judge) {
            int shown = 0;
            for (int number = 0; number < size; number++) {
                if (judgeOf[number] == judge) {
                    shown++;
                }
            }
            return shown;
        }

        void take(Course other) {
            System.arraycopy(other.kinds, 0, kinds, 0, MOST_JUDGES);
            System.arraycopy(other.rowOf, 0, rowOf, 0, MOST_SHOWN);
            System.arraycopy(other.judgeOf, 0, judgeOf, 0, MOST_SHOWN);
            System.arraycopy(other.toldOf, 0, toldOf, 0, MOST_SHOWN);
            hidden = other.hidden;
            size = other.size;
        }
    }

    /** Rows that may be hidden yet, by number. */
    private static final class Pool {
        private final Rows rows;
        final int[] members = new int[MOST_ROWS];
        int size;
        private final boolean[] isMember = new boolean[MOST_ROWS];
        private final int[] often = new int[WORDS];

        Pool(Rows rows) {
            this.rows = rows;
        }

        void fill() {
            size = rows.size;
            for (int row = 0; row < size; row++) {
                members[row] = row;
                isMember[row] = true;
            }
        }

        void keep(Judge judge, int shown, int told) {
            int stays = 0;
            for (int at = 0; at < size; at++) {
                int row = members[at];
                if (judge.word(rows, shown, row) == told) {
                    members[stays] = row;
                    stays++;
                } else {
                    isMember[row] = false;
                }
            }
            size = stays;
        }

        void drop(int gone) {
            int stays = 0;
            for (int at = 0; at < size; at++) {
                if (members[at] != gone) {
                    members[stays] = members[at];
                    stays++;
                }
            }
            size = stays;
            isMember[gone] = false;
        }

        /** The row that leaves fewest at worst; of these a member first, then the least; NONE for no members. */
        int bestRow(Judge judge) {
            int best = NONE;
            int least = 2 * MOST_ROWS + 2;
            for (int row = 0; row < rows.size && size > 0; row++) {
                int rank = 2 * worst(judge, row) + (isMember[row] ? 0 : 1);
                if (rank < least) {
                    least = rank;
                    best = row;
                }
            }
            return best;
        }

        int worst(Judge judge, int shown) {
            tally(judge, shown);
            int worst = 0;
            for (int many : often) {
                worst = Math.max(worst, many);
            }
            return worst;
        }

        int squares(Judge judge, int shown) {
            tally(judge, shown);
            int sum = 0;
            for (int many : often) {
                sum += many * many;
            }
            return sum;
        }

        private void tally(Judge judge, int shown) {
            for (int told = 0; told < often.length; told++) {
                often[told] = 0;
            }
            for (int at = 0; at < size; at++) {
                int told = judge.word(rows, shown, members[at]);
                if (told >= 0 && told < often.length) {
                    often[told]++;
                }
            }
        }
    }

    /** The fewest rows by which a judge tells apart all that he can. */
    private static final class Parting {
        private final Rows rows;
        // A mark says in which trial a pair of words was met last, so that no trial has to wipe them.
        private final int[] marks = new int[WORDS * WORDS];
        private int trials;
        int many;
        int first;
        int second;

        Parting(Rows rows) {
            this.rows = rows;
        }

        void find(Judge judge) {
            int due = sortsOfRows(judge);
            // No row at all is never enough: by a row of one colour every judge tells some apart.
            for (int one = 0; one < rows.size; one++) {
                if (partsBy(judge, one, one) == due) {
                    answer(1, one, NONE);
                    return;
                }
            }
            for (int one = 0; one < rows.size; one++) {
                for (int other = one + 1; other < rows.size; other++) {
                    if (partsBy(judge, one, other) == due) {
                        answer(2, one, other);
                        return;
                    }
                }
            }
            answer(NONE, NONE, NONE);
        }

        private void answer(int many, int first, int second) {
            this.many = many;
            this.first = first;
            this.second = second;
        }

        private int sortsOfRows(Judge judge) {
            int sorts = 0;
            for (int row = 0; row < rows.size; row++) {
                boolean isNew = true;
                for (int lesser = 0; lesser < row && isNew; lesser++) {
                    isNew = !rows.areTwins(judge, lesser, row);
                }
                if (isNew) {
                    sorts++;
                }
            }
            return sorts;
        }

        private int partsBy(Judge judge, int one, int other) {
            trials++;
            int parts = 0;
            for (int hidden = 0; hidden < rows.size; hidden++) {
                int pair = judge.word(rows, one, hidden) * WORDS + judge.word(rows, other, hidden);
                if (pair >= 0 && pair < marks.length && marks[pair] != trials) {
                    marks[pair] = trials;
                    parts++;
                }
            }
            return parts;
        }
    }

    /** Games that are played by draws. */
    private static final class Tries {
        private static final int QUICK = 3;

        private final Rows rows;
        private final Pool pool;
        int shown;
        int quick;
        int seed;

        Tries(Rows rows, Pool pool) {
            this.rows = rows;
            this.pool = pool;
        }

        void play(Judge judge, int times, int firstSeed) {
            seed = firstSeed;
            shown = 0;
            quick = 0;
            for (int time = 0; time < times; time++) {
                int many = playOne(judge);
                shown += many;
                if (many <= QUICK) {
                    quick++;
                }
            }
        }

        private int playOne(Judge judge) {
            int hidden = draw(rows.size);
            pool.fill();
            // Each row is shown once at most, and the hidden one always fits: it comes within this bound.
            for (int many = 1; many <= rows.size; many++) {
                int row = pool.members[draw(pool.size)];
                if (row == hidden) {
                    return many;
                }
                pool.keep(judge, row, judge.word(rows, row, hidden));
                pool.drop(row);
            }
            return rows.size;
        }

        private int draw(int many) {
            seed = (int) ((1103515245L * seed + 12345) & 0x7fffffffL);
            return many > 0 ? seed / 65536 % many : 0;
        }
    }
}
