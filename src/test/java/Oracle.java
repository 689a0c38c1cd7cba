import java.math.BigInteger;
import java.util.ArrayList;
import java.util.HashMap;
import java.util.HashSet;
import java.util.List;
import java.util.Map;
import java.util.Set;
import java.util.function.IntUnaryOperator;
import java.util.regex.Matcher;
import java.util.regex.Pattern;

/** The document's words, put down as plainly as can be, without care for speed or room. */
final class Oracle {
    private static final int NONE = -1, UNKNOWN = -101, OUTSIDE = -102, STATE = -103, FULL = -104;
    private static final Pattern GAME = Pattern.compile(allGames());

    private record Shown(int row, int judge, int told) { }

    private record Image(String kinds, int hidden, List<Shown> shown) { }

    private String page = "";
    private boolean on;
    private int pegs;
    private int colours;
    private String kinds = "";
    private int hidden;
    private List<Shown> shown = new ArrayList<>();
    private Image image;
    private int games;
    private int bests;
    private int longs;
    private int partings;

    int letter(int code) {
        if (code < 1 || code > 126) return OUTSIDE;
        if (page.length() == 12) return FULL;
        page += (char) code;
        return page.length();
    }

    int blank() {
        int had = page.length();
        page = "";
        return had;
    }

    int fault() {
        for (int many = 1; many <= page.length(); many++) {
            if (!beginsGame(page.substring(0, many))) return many - 1;
        }
        return page.length();
    }

    private static boolean beginsGame(String text) {
        Matcher matcher = GAME.matcher(text);
        return matcher.matches() || matcher.hitEnd();
    }

    private static boolean isGame(String text) {
        return GAME.matcher(text).matches();
    }

    private static String allGames() {
        StringBuilder all = new StringBuilder();
        for (int pegs = 1; pegs <= 3; pegs++) {
            for (int colours = 2; colours <= 6; colours++) {
                char last = "abcdef".charAt(colours - 1);
                all.append(all.isEmpty() ? "" : "|").append(pegs).append(colours)
                    .append(";[jstwc]{1,3};[a-").append(last).append("]{").append(pegs).append("}");
            }
        }
        return all.toString();
    }

    int game() {
        if (!isGame(page)) return STATE;
        String[] fields = page.split(";");
        on = true;
        pegs = fields[0].charAt(0) - '0';
        colours = fields[0].charAt(1) - '0';
        kinds = fields[1];
        hidden = Integer.parseInt(figures(fields[2]), colours);
        shown = new ArrayList<>();
        image = null;
        games++;
        page = "";
        return rows();
    }

    private static String figures(String row) {
        StringBuilder figures = new StringBuilder();
        for (char colour : row.toCharArray()) figures.append(colour - 'a');
        return figures.toString();
    }

    private int rows() {
        int rows = on ? 1 : 0;
        for (int peg = 0; peg < pegs; peg++) rows *= colours;
        return rows;
    }

    private String colours(int row) {
        StringBuilder text = new StringBuilder(Integer.toString(row, colours));
        while (text.length() < pegs) text.insert(0, '0');
        return text.toString();
    }

    private boolean noJudge(int judge) {
        return judge < 0 || judge >= kinds.length();
    }

    private boolean noRow(int row) {
        return row < 0 || row >= rows();
    }

    private static final Map<String, int[][]> TABLES = new HashMap<>();

    private int word(char kind, int shownRow, int hiddenRow) {
        int size = pegs * 10 + colours;
        if (size != tablesSize) {
            tables.clear();
            tablesSize = size;
        }
        return tables.computeIfAbsent(kind, key -> TABLES.computeIfAbsent("" + kind + size, name -> table(kind)))
            [shownRow][hiddenRow];
    }

    private final Map<Character, int[][]> tables = new HashMap<>();
    private int tablesSize;

    private int[][] table(char kind) {
        int[][] table = new int[rows()][rows()];
        for (int one = 0; one < rows(); one++) {
            for (int other = 0; other < rows(); other++) table[one][other] = word(kind, colours(one), colours(other));
        }
        return table;
    }

    private static int word(char kind, String one, String other) {
        int right = 0;
        for (int peg = 0; peg < one.length(); peg++) {
            if (one.charAt(peg) == other.charAt(peg)) right++;
        }
        int alike = 0;
        for (char colour = '0'; colour <= '5'; colour++) alike += Math.min(often(one, colour), often(other, colour));
        switch (kind) {
            case 'j': return 10 * right + (alike - right);
            case 's': return alike;
            case 't': return right;
            case 'w': return word('j', new StringBuilder(one).reverse().toString(), other);
            default: return alike % 2 == 1 ? 1 : 0;
        }
    }

    private static int often(String row, char colour) {
        return (int) row.chars().filter(each -> each == colour).count();
    }

    private boolean fitsNow(int row) {
        for (Shown each : shown) {
            if (word(kinds.charAt(each.judge()), each.row(), row) != each.told()) return false;
        }
        return true;
    }

    private List<Integer> fitting() {
        List<Integer> all = new ArrayList<>();
        for (int row = 0; row < rows(); row++) if (fitsNow(row)) all.add(row);
        return all;
    }

    private int sorts(int judge) {
        int bits = 0;
        for (int kind = 0; kind < 5; kind++) {
            boolean can = true;
            for (Shown each : shown) {
                if (each.judge() == judge && word("jstwc".charAt(kind), each.row(), hidden) != each.told()) can = false;
            }
            if (can) bits += 1 << kind;
        }
        return bits;
    }

    /** How many of the items are of each answer. */
    private static Map<Integer, Integer> split(List<Integer> items, IntUnaryOperator answer) {
        Map<Integer, Integer> parts = new HashMap<>();
        for (int item : items) parts.merge(answer.applyAsInt(item), 1, Integer::sum);
        return parts;
    }

    private static int most(Map<Integer, Integer> parts) {
        return parts.values().stream().mapToInt(each -> each).max().orElse(0);
    }

    private int test(int judge) {
        List<Integer> can = new ArrayList<>();
        for (int kind = 0; kind < 5; kind++) if ((sorts(judge) >> kind) % 2 == 1) can.add(kind);
        int test = NONE;
        int least = Integer.MAX_VALUE;
        for (int row = 0; row < rows() && !can.isEmpty(); row++) {
            int shownRow = row;
            int worst = most(split(can, kind -> word("jstwc".charAt(kind), shownRow, hidden)));
            if (worst < least) {
                least = worst;
                test = row;
            }
        }
        return test;
    }

    private String signature(char kind, int row) {
        StringBuilder all = new StringBuilder();
        for (int each = 0; each < rows(); each++) all.append(word(kind, each, row)).append(',');
        return all.toString();
    }

    private final Map<String, Integer> twins = new HashMap<>();

    private int twins(char kind) {
        return twins.computeIfAbsent("" + kind + pegs + colours, key -> twinsAnew(kind));
    }

    private int twinsAnew(char kind) {
        Map<String, List<Integer>> like = new HashMap<>();
        for (int row = 0; row < rows(); row++) {
            like.computeIfAbsent(signature(kind, row), key -> new ArrayList<>()).add(row);
        }
        int first = Integer.MAX_VALUE;
        for (List<Integer> each : like.values()) {
            if (each.size() > 1) first = Math.min(first, each.get(0) * 1000 + each.get(1));
        }
        return first == Integer.MAX_VALUE ? NONE : first;
    }

    int judge(int judge, int what) {
        if (noJudge(judge)) return UNKNOWN;
        switch (what) {
            case 0: return "jstwc".indexOf(kinds.charAt(judge));
            case 1: return (int) shown.stream().filter(each -> each.judge() == judge).count();
            case 2: return sorts(judge);
            case 3: return test(judge);
            case 4: return twins(kinds.charAt(judge));
            default: return OUTSIDE;
        }
    }

    int as(int judge, int kind) {
        if (noJudge(judge)) return UNKNOWN;
        if (kind < 0 || kind > 4) return OUTSIDE;
        char is = kinds.charAt(judge);
        return kind == 0 || is == "jstwc".charAt(kind) || is == 'c' && kind == 1 ? judge : NONE;
    }

    int row(int row, int what) {
        if (noRow(row)) return UNKNOWN;
        switch (what) {
            case 0: return fitsNow(row) ? 1 : 0;
            case 1: case 2: case 3: return what > pegs ? NONE : colours(row).charAt(what - 1) - '0';
            case 4: return row == hidden ? 1 : 0;
            default: return OUTSIDE;
        }
    }

    int tells(int judge, int shownRow, int hiddenRow) {
        if (noJudge(judge) || noRow(shownRow) || noRow(hiddenRow)) return UNKNOWN;
        return word(kinds.charAt(judge), shownRow, hiddenRow);
    }

    int seen(int number, int what) {
        if (number < 0 || number >= shown.size()) return UNKNOWN;
        switch (what) {
            case 0: return shown.get(number).row();
            case 1: return shown.get(number).judge();
            case 2: return shown.get(number).told();
            default: return OUTSIDE;
        }
    }

    int show(int row, int judge) {
        if (noRow(row) || noJudge(judge)) return UNKNOWN;
        if (shown.size() == 12) return FULL;
        shown.add(new Shown(row, judge, word(kinds.charAt(judge), row, hidden)));
        return shown.get(shown.size() - 1).told();
    }

    int note(int row, int judge, int told) {
        if (noRow(row) || noJudge(judge)) return UNKNOWN;
        if (told < 0 || told > 40) return OUTSIDE;
        if (shown.size() == 12) return FULL;
        shown.add(new Shown(row, judge, told));
        return fitting().size();
    }

    int strike() {
        if (shown.isEmpty()) return STATE;
        shown.remove(shown.size() - 1);
        return shown.size();
    }

    int forget() {
        int had = shown.size();
        shown.clear();
        return had;
    }

    int hide(int row) {
        if (noRow(row)) return UNKNOWN;
        int was = hidden;
        hidden = row;
        return was;
    }

    int swap(int judge, int kind) {
        if (noJudge(judge)) return UNKNOWN;
        if (kind < 0 || kind > 4) return OUTSIDE;
        int was = "jstwc".indexOf(kinds.charAt(judge));
        kinds = kinds.substring(0, judge) + "jstwc".charAt(kind) + kinds.substring(judge + 1);
        return was;
    }

    int left() {
        return on ? fitting().size() : STATE;
    }

    int fits(int number) {
        if (number < 0) return OUTSIDE;
        if (!on) return STATE;
        List<Integer> all = fitting();
        return number < all.size() ? all.get(number) : NONE;
    }

    private int worst(char kind, int row, List<Integer> all) {
        return most(split(all, each -> word(kind, row, each)));
    }

    private int bestRow(char kind, List<Integer> all) {
        if (all.isEmpty()) return NONE;
        int least = Integer.MAX_VALUE;
        List<Integer> like = new ArrayList<>();
        for (int row = 0; row < rows(); row++) {
            int worst = worst(kind, row, all);
            if (worst < least) like.clear();
            least = Math.min(least, worst);
            if (worst == least) like.add(row);
        }
        for (int row : like) if (all.contains(row)) return row;
        return like.get(0);
    }

    int best(int judge, int what) {
        if (noJudge(judge)) return UNKNOWN;
        if (what < 0 || what > 1) return OUTSIDE;
        if (bests == 24) return STATE;
        bests++;
        int row = bestRow(kinds.charAt(judge), fitting());
        if (what == 0) return row;
        return row == NONE ? 0 : worst(kinds.charAt(judge), row, fitting());
    }

    int rest(int row, int judge, int what) {
        if (noRow(row) || noJudge(judge)) return UNKNOWN;
        if (what < 0 || what > 1) return OUTSIDE;
        List<Integer> all = fitting();
        if (all.isEmpty()) return what == 0 ? 0 : 1;
        int sum = 0;
        for (int each : all) {
            int told = word(kinds.charAt(judge), row, each);
            for (int other : all) if (word(kinds.charAt(judge), row, other) == told) sum++;
        }
        int shared = BigInteger.valueOf(sum).gcd(BigInteger.valueOf(all.size())).intValue();
        return what == 0 ? sum / shared : all.size() / shared;
    }

    int howLong(int judge, int row) {
        if (noJudge(judge) || noRow(row)) return UNKNOWN;
        if (longs == 6) return STATE;
        longs++;
        char kind = kinds.charAt(judge);
        List<Integer> all = new ArrayList<>();
        for (int each = 0; each < rows(); each++) all.add(each);
        for (int behind = 1; behind <= 8; behind++) {
            int best = bestRow(kind, all);
            all.removeIf(each -> word(kind, best, each) != word(kind, best, row));
            if (all.size() == 1) return behind;
        }
        return NONE;
    }

    int parts(int judge, int what) {
        if (noJudge(judge)) return UNKNOWN;
        if (what < 0 || what > 2) return OUTSIDE;
        if (rows() > 64 || partings == 9) return STATE;
        partings++;
        char kind = kinds.charAt(judge);
        if (tellsAll(kind)) return what == 0 ? 0 : NONE;
        for (int one = 0; one < rows(); one++) {
            if (tellsAll(kind, one)) return what == 0 ? 1 : what == 1 ? one : NONE;
        }
        for (int one = 0; one < rows(); one++) {
            for (int other = one + 1; other < rows(); other++) {
                if (tellsAll(kind, one, other)) return what == 0 ? 2 : what == 1 ? one : other;
            }
        }
        return NONE;
    }

    /** Whether there are as many sorts of answers to these rows as there are to all. */
    private boolean tellsAll(char kind, int... toShow) {
        Set<String> all = new HashSet<>();
        Set<String> by = new HashSet<>();
        for (int row = 0; row < rows(); row++) {
            int each = row;
            all.add(signatures.computeIfAbsent("" + kind + pegs + colours + ":" + row, key -> signature(kind, each)));
            StringBuilder told = new StringBuilder();
            for (int one : toShow) told.append(word(kind, one, row)).append(',');
            by.add(told.toString());
        }
        return by.size() == all.size();
    }

    private final Map<String, String> signatures = new HashMap<>();

    private BigInteger seed;

    private int draw(int many) {
        seed = seed.multiply(BigInteger.valueOf(1103515245)).add(BigInteger.valueOf(12345))
            .mod(BigInteger.TWO.pow(31));
        return seed.divide(BigInteger.valueOf(65536)).mod(BigInteger.valueOf(many)).intValue();
    }

    int tries(int judge, int times, int firstSeed, int what) {
        if (noJudge(judge)) return UNKNOWN;
        if (times < 1 || times > 20 || firstSeed < 0 || what < 0 || what > 2) return OUTSIDE;
        char kind = kinds.charAt(judge);
        seed = BigInteger.valueOf(firstSeed);
        int sum = 0;
        int quick = 0;
        for (int time = 0; time < times; time++) {
            int secret = draw(rows());
            List<Integer> were = new ArrayList<>();
            while (!were.contains(secret)) {
                List<Integer> can = new ArrayList<>();
                for (int row = 0; row < rows(); row++) {
                    int each = row;
                    if (!were.contains(row)
                            && were.stream().allMatch(was -> word(kind, was, each) == word(kind, was, secret))) {
                        can.add(row);
                    }
                }
                were.add(can.get(draw(can.size())));
            }
            sum += were.size();
            if (were.size() <= 3) quick++;
        }
        return what == 0 ? sum : what == 1 ? quick : seed.intValueExact();
    }

    int image() {
        if (!on) return STATE;
        image = new Image(kinds, hidden, new ArrayList<>(shown));
        return shown.size();
    }

    int restore() {
        if (image == null) return STATE;
        kinds = image.kinds();
        hidden = image.hidden();
        shown = new ArrayList<>(image.shown());
        return shown.size();
    }

    int count(int what) {
        int[] counts = {
            on ? pegs : 0, on ? colours : 0, rows(), kinds.length(), shown.size(), on ? hidden : NONE, page.length(),
            games, bests, longs, partings
        };
        return what < 0 || what >= counts.length ? OUTSIDE : counts[what];
    }

    long digest() {
        List<Integer> numbers = new ArrayList<>();
        for (int judge = 0; judge < kinds.length(); judge++) {
            for (int what = 0; what <= 3; what++) numbers.add(judge(judge, what));
            numbers.add(rest(0, judge, 0));
            numbers.add(rest(0, judge, 1));
        }
        for (Shown each : shown) numbers.addAll(List.of(each.row(), each.judge(), each.told()));
        if (on) numbers.addAll(List.of(left(), fits(0)));
        for (char letter : page.toCharArray()) numbers.add((int) letter);
        for (int what = 0; what <= 10; what++) numbers.add(count(what));
        long h = 1297;
        for (int number : numbers) h = 31 * h + number;
        return h;
    }
}
