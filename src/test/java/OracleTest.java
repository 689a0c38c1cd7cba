import java.util.Random;

/** Long runs of calls, drawn by fixed seeds, compared with Oracle, which follows the document's words one by one. */
public final class OracleTest {
    private static final int RUNS = 400;
    private static final int CALLS = 512;
    private static final String[] NAMES = {
        "letter", "blank", "fault", "game", "judge", "as", "row", "tells", "seen", "show", "note", "strike", "forget",
        "hide", "swap", "left", "fits", "best", "rest", "howLong", "parts", "tries", "image", "restore", "count",
        "digest"
    };
    // How many arguments each call has, and how often it is drawn.
    private static final int[] ARGUMENTS = {
        1, 0, 0, 0, 2, 2, 2, 3, 2, 2, 3, 0, 0, 1, 2, 0, 1, 2, 3, 2, 2, 4, 0, 0, 1, 0
    };
    private static final int[] WEIGHTS = {
        4, 1, 2, 1, 8, 3, 5, 5, 5, 9, 5, 3, 1, 2, 3, 3, 4, 3, 4, 1, 1, 3, 2, 3, 4, 3
    };

    public static void main(String[] args) {
        Due due = new Due();
        for (int run = 0; run < RUNS && due.wrong() < 20; run++) {
            play(due, run);
        }
        due.end();
    }

    private static void play(Due due, int run) {
        Random random = new Random(run);
        JudgedRows subject = new JudgedRows();
        Oracle oracle = new Oracle();
        int calls = 0;
        while (calls < CALLS && due.wrong() < 20) {
            // Now and then a whole text is written, so that games are read often; never past the last call.
            if (calls == 0 || random.nextInt(60) == 0 && calls < CALLS - 20) {
                String text = text(random, run);
                for (int at = 0; at < text.length(); at++) {
                    call(due, run, calls++, subject, oracle, 0, new int[] {text.charAt(at)});
                }
                call(due, run, calls++, subject, oracle, 2, new int[0]);
                call(due, run, calls++, subject, oracle, 3, new int[0]);
                if (random.nextBoolean()) {
                    call(due, run, calls++, subject, oracle, 1, new int[0]);
                }
            }
            int number = drawCall(random);
            call(due, run, calls++, subject, oracle, number, arguments(random, number, oracle));
        }
    }

    private static int drawCall(Random random) {
        int sum = 0;
        for (int weight : WEIGHTS) {
            sum += weight;
        }
        int drawn = random.nextInt(sum);
        int number = 0;
        while (drawn >= WEIGHTS[number]) {
            drawn -= WEIGHTS[number];
            number++;
        }
        return number;
    }

    private static String text(Random random, int run) {
        int pegs = 1 + (run + random.nextInt(2)) % 3;
        int colours = 2 + random.nextInt(5);
        StringBuilder text = new StringBuilder();
        text.append(pegs).append(colours).append(';');
        int judges = 1 + random.nextInt(3);
        for (int judge = 0; judge < judges; judge++) {
            text.append("jstwc".charAt(random.nextInt(5)));
        }
        text.append(';');
        for (int peg = 0; peg < pegs; peg++) {
            text.append((char) ('a' + random.nextInt(colours)));
        }
        if (random.nextInt(4) == 0) {
            text.setCharAt(random.nextInt(text.length()), "0123567;jstwcabcdefg".charAt(random.nextInt(20)));
        }
        if (random.nextInt(8) == 0) {
            text.append("abcj;1".charAt(random.nextInt(6)));
        }
        if (random.nextInt(8) == 0) {
            text.setLength(random.nextInt(text.length()));
        }
        return text.toString();
    }

    private static int[] arguments(Random random, int number, Oracle oracle) {
        int[] drawn = new int[ARGUMENTS[number]];
        for (int at = 0; at < drawn.length; at++) {
            drawn[at] = argument(random, NAMES[number], at, oracle);
        }
        return drawn;
    }

    private static int argument(Random random, String name, int at, Oracle oracle) {
        if (random.nextInt(25) == 0) {
            int[] odd = {-1, Integer.MIN_VALUE, Integer.MAX_VALUE, 1 << 30, -2, 127, 126, 0, 216, 64, 41, 40, 21, 20};
            return odd[random.nextInt(odd.length)];
        }
        String[] kinds = {
            "letter:c", "judge:jw", "as:jk", "row:rw", "tells:jrr", "seen:nx", "show:rj", "note:rjt", "hide:r",
            "swap:jk", "fits:f", "best:jy", "rest:rjy", "howLong:jr", "parts:jx", "tries:jmsx", "count:o"
        };
        char kind = ' ';
        for (String each : kinds) {
            if (each.startsWith(name + ":")) {
                kind = each.charAt(name.length() + 1 + at);
            }
        }
        switch (kind) {
            case 'c': return "123456;jstwcabcdef".charAt(random.nextInt(18));
            case 'j': return random.nextInt(oracle.count(3) + (random.nextInt(6) == 0 ? 2 : 1));
            case 'k': return random.nextInt(random.nextInt(6) == 0 ? 7 : 5);
            case 'w': return random.nextInt(random.nextInt(6) == 0 ? 7 : 5);
            case 'r': return random.nextInt(oracle.count(2) + 1);
            case 'n': return random.nextInt(oracle.count(4) + 1);
            case 'x': return random.nextInt(random.nextInt(6) == 0 ? 5 : 3);
            case 'y': return random.nextInt(random.nextInt(6) == 0 ? 4 : 2);
            case 't': return random.nextInt(random.nextInt(6) == 0 ? 45 : 4) * (random.nextBoolean() ? 1 : 10);
            case 'f': return random.nextInt(oracle.count(2) / (1 + random.nextInt(4)) + 1);
            case 'm': return random.nextInt(23);
            case 's': return random.nextInt(1 + random.nextInt(Integer.MAX_VALUE));
            case 'o': return random.nextInt(12);
            default: throw new IllegalStateException(name);
        }
    }

    private static void call(Due due, int run, int place, JudgedRows x, Oracle y, int number, int[] a) {
        StringBuilder text = new StringBuilder("run " + run + ", call " + place + ": " + NAMES[number] + "(");
        for (int at = 0; at < a.length; at++) {
            text.append(at == 0 ? "" : ", ").append(a[at]);
        }
        text.append(")");
        switch (number) {
            case 0: due.is(text.toString(), x.letter(a[0]), y.letter(a[0])); break;
            case 1: due.is(text.toString(), x.blank(), y.blank()); break;
            case 2: due.is(text.toString(), x.fault(), y.fault()); break;
            case 3: due.is(text.toString(), x.game(), y.game()); break;
            case 4: due.is(text.toString(), x.judge(a[0], a[1]), y.judge(a[0], a[1])); break;
            case 5: due.is(text.toString(), x.as(a[0], a[1]), y.as(a[0], a[1])); break;
            case 6: due.is(text.toString(), x.row(a[0], a[1]), y.row(a[0], a[1])); break;
            case 7: due.is(text.toString(), x.tells(a[0], a[1], a[2]), y.tells(a[0], a[1], a[2])); break;
            case 8: due.is(text.toString(), x.seen(a[0], a[1]), y.seen(a[0], a[1])); break;
            case 9: due.is(text.toString(), x.show(a[0], a[1]), y.show(a[0], a[1])); break;
            case 10: due.is(text.toString(), x.note(a[0], a[1], a[2]), y.note(a[0], a[1], a[2])); break;
            case 11: due.is(text.toString(), x.strike(), y.strike()); break;
            case 12: due.is(text.toString(), x.forget(), y.forget()); break;
            case 13: due.is(text.toString(), x.hide(a[0]), y.hide(a[0])); break;
            case 14: due.is(text.toString(), x.swap(a[0], a[1]), y.swap(a[0], a[1])); break;
            case 15: due.is(text.toString(), x.left(), y.left()); break;
            case 16: due.is(text.toString(), x.fits(a[0]), y.fits(a[0])); break;
            case 17: due.is(text.toString(), x.best(a[0], a[1]), y.best(a[0], a[1])); break;
            case 18: due.is(text.toString(), x.rest(a[0], a[1], a[2]), y.rest(a[0], a[1], a[2])); break;
            case 19: due.is(text.toString(), x.howLong(a[0], a[1]), y.howLong(a[0], a[1])); break;
            case 20: due.is(text.toString(), x.parts(a[0], a[1]), y.parts(a[0], a[1])); break;
            case 21:
                due.is(text.toString(), x.tries(a[0], a[1], a[2], a[3]), y.tries(a[0], a[1], a[2], a[3]));
                break;
            case 22: due.is(text.toString(), x.image(), y.image()); break;
            case 23: due.is(text.toString(), x.restore(), y.restore()); break;
            case 24: due.is(text.toString(), x.count(a[0]), y.count(a[0])); break;
            default: due.is(text.toString(), x.digest(), y.digest()); break;
        }
    }
}
