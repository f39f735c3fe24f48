/** All promises: random TEXTS and random calls, answered alike by BeatParish and by the second program. */
final class ModelTest {
    private static final int RUNS = 800;
    private static final int CALLS = 150;
    private static final int BROKEN_RUNS = 2000;
    // an object is used for 512 calls at most
    private static final int BROKEN_TEXTS = 10;

    private final Dice dice;
    private final BeatParish x = new BeatParish();
    private final Second y = new Second();

    private ModelTest(int seed) {
        dice = new Dice(seed);
    }

    public static void main(String[] args) {
        for (int run = 0; run < RUNS; run++) {
            new ModelTest(run).calls(run);
        }
        for (int run = 1; run <= BROKEN_RUNS; run++) {
            new ModelTest(-run).brokenTexts();
        }
        Check.end();
    }

    /** Numbers that are alike in each run of the tests. */
    static final class Dice {
        private long last;

        Dice(long seed) {
            last = seed * 7919 + 17;
        }

        /** 0 up to below n. */
        int below(int n) {
            last = last * 6364136223846793005L + 1442695040888963407L;
            return (int) ((last >>> 33) % n);
        }

        int from(int least, int most) {
            return least + below(most - least + 1);
        }

        boolean in(int n) {
            return below(n) == 0;
        }
    }

    private void calls(int run) {
        tell(text());
        for (int k = 0; k < CALLS; k++) {
            int which = dice.below(64);
            long[] answers = which < 16 ? change(which) : which < 40 ? ask(which) : reckon(which);
            Check.due("run " + run + ", call " + k + " (" + which + ")", answers[0], answers[1]);
        }
        for (int what = 0; what < 14; what++) {
            Check.due("run " + run + ", count(" + what + ")", x.count(what), y.count(what));
        }
    }

    private void brokenTexts() {
        for (int k = 0; k < BROKEN_TEXTS; k++) {
            StringBuilder text = new StringBuilder(text());
            if (dice.in(3)) {
                moveLine(text);
            } else {
                for (int change = dice.below(3); change >= 0; change--) {
                    breakOne(text);
                }
            }
            if (text.length() > 700) {
                text.setLength(700);
            }
            tell(text.toString());
        }
    }

    /** One LINE stands elsewhere, too, perhaps with other letters. */
    private void moveLine(StringBuilder text) {
        String[] lines = text.toString().split("(?<=;)");
        String line = lines[dice.below(lines.length)];
        if (dice.in(2)) {
            line = line.replace((char) ('a' + dice.below(6)), (char) ('a' + dice.below(6)));
        }
        int to = dice.below(lines.length + 1);
        int at = 0;
        for (int k = 0; k < to; k++) {
            at += lines[k].length();
        }
        text.insert(at, line);
    }

    private void breakOne(StringBuilder text) {
        String[] bits = {"man", "tie", "work", "speed", "spring", "wasp", "seed", "law", "slip", "not ", "and", "or", "beat",
            "a", "b", "p", "zzzzzz", "zzzzzzz", ";", "(", ")", "<", "=", ">", "+", "-", "*", "/", " ", "\n", "\t", "A", "0", "1",
            "12", "13", "99", "100", "199", "200", "999", "1000", "9999", "10000", "99999", "100000", "\u0000", "\u00ff", "<=",
            "<>", ">="};
        int at = dice.below(text.length() + 1);
        String bit = bits[dice.below(bits.length)];
        switch (dice.below(5)) {
            case 0 -> text.setLength(at);
            case 1 -> text.delete(at, Math.min(text.length(), at + dice.from(1, 3)));
            case 2 -> text.insert(at, " " + bit + " ");
            case 3 -> text.insert(at, bit);
            default -> text.replace(at, Math.min(text.length(), at + bit.length()), bit);
        }
    }

    private void tell(String text) {
        for (int from = 0; from < text.length(); from += 20) {
            int[] five = new int[5];
            for (int i = 0; i < 20; i++) {
                five[i / 4] = five[i / 4] << 8 | (from + i < text.length() ? text.charAt(from + i) : ' ');
            }
            Check.due("feed", x.feed(five[0], five[1], five[2], five[3], five[4]), y.feed(five));
        }
        Check.due("text " + text, x.text(text.length()), y.text(text.length()));
        Check.due("fault(0) of " + text, x.fault(0), y.fault(0));
        Check.due("fault(1) of " + text, x.fault(1), y.fault(1));
        Check.due("KNOTS of " + text, x.count(3), y.count(3));
    }

    private String text() {
        StringBuilder text = new StringBuilder();
        int people = dice.below(7);
        for (int man = 0; man < people; man++) {
            text.append("man ").append((char) ('a' + man)).append(' ').append(dice.from(1, dice.in(3) ? 199 : 70)).append(' ')
                .append(dice.below(100)).append(";");
        }
        for (int k = dice.below(10); k > 0 && people > 1; k--) {
            int one = dice.below(people);
            int other = dice.below(people);
            String tie = "tie " + (char) ('a' + Math.min(one, other)) + " " + (char) ('a' + Math.max(one, other)) + ";";
            if (one != other && text.indexOf(tie) < 0) {
                text.append(tie);
            }
        }
        for (int work = dice.below(9); work > 0 && people > 0; work--) {
            text.append("work ").append((char) ('p' + work)).append(' ').append((char) ('a' + dice.below(people))).append(' ')
                .append(dice.from(1, dice.in(2) ? 999 : 200)).append(' ').append(dice.from(1, 12)).append(' ')
                .append(dice.below(dice.in(2) ? 10 : 100)).append(dice.in(5) ? "; \n" : ";");
        }
        for (int k = dice.below(4); k > 0; k--) {
            text.append("speed ").append(dice.from(1, dice.in(4) ? 199 : 40)).append(';');
        }
        text.append(dice.in(2) ? "spring " + dice.below(1000) + ";" : "");
        text.append(dice.in(3) ? "" : "wasp " + (dice.in(4) ? 100 * dice.below(2) : dice.below(101)) + ";");
        text.append(dice.in(2) ? "seed " + dice.below(100000) + ";" : "");
        String[] laws = {"slip", "wear", "hush"};
        for (String law : laws) {
            if (dice.in(2)) {
                text.append("law ").append(law).append(' ').append(expression(dice.from(1, 4))).append(';');
            }
        }
        return text.length() > 700 ? text() : text.toString();
    }

    private String expression(int depth) {
        String[] signs = {"or", "and", "<", "<=", "=", "<>", ">=", ">", "+", "-", "*", "/", "+", "-", "*", "/"};
        int kind = depth <= 0 ? dice.below(2) : dice.below(10);
        if (kind == 0) {
            return Integer.toString(dice.below(dice.in(3) ? 10000 : 12));
        }
        if (kind == 1) {
            return Model.NAMES.get(dice.below(7));
        }
        if (kind == 2) {
            return "not " + expression(depth - 1);
        }
        if (kind == 3) {
            return "(" + expression(depth - 1) + ")";
        }
        if (kind == 4) {
            return "(" + expression(depth - 1) + ")" + signs[8 + dice.below(4)] + "(" + expression(depth - 1) + ")";
        }
        return expression(depth - 1) + " " + signs[dice.below(signs.length)] + " " + expression(depth - 2);
    }

    private int man() {
        return dice.in(20) ? dice.from(-2, 7) : dice.below(Math.max(1, y.count(0)));
    }

    private int work() {
        return dice.in(20) ? dice.from(-2, 9) : dice.below(Math.max(1, y.count(2)));
    }

    /** Mostly within, sometimes just beyond or far beyond. */
    private int within(int least, int most) {
        if (dice.in(25)) {
            int[] edges = {least - 1, most + 1, Integer.MIN_VALUE, Integer.MAX_VALUE, least, most};
            return edges[dice.below(6)];
        }
        return dice.from(least, dice.in(2) ? Math.min(most, least + 12) : most);
    }

    private static long[] both(long a, long b) {
        return new long[] {a, b};
    }

    private static long[] both(boolean a, long b) {
        return new long[] {a ? 1 : 0, b};
    }

    private long[] change(int which) {
        int man = man();
        int n = dice.in(9) ? within(0, 99) : within(0, 2);
        boolean is = dice.in(2);
        switch (which) {
            case 0, 1:
                n = within(-99, 99);
                return both(x.shift(n), y.shift(n));
            case 2:
                n = within(1, 999);
                return both(x.wind(n), y.wind(n));
            case 3, 4, 5:
                n = within(0, 9);
                return both(x.hiccup(man, n), y.hiccup(man, n));
            case 6, 7:
                return both(x.aunt(man, is), y.aunt(man, is));
            case 8, 9:
                return both(x.go(n), y.go(n));
            case 10:
                return both(x.undo(), y.undo());
            case 11:
                return both(x.keep(), y.keep());
            case 12:
                return both(x.back(), y.back());
            case 13:
                n = within(0, y.count(11));
                return both(x.strike(n), y.strike(n));
            case 14:
                n = within(-1, y.count(11));
                return both(x.known(n), y.known(n));
            default:
                int w = work();
                n = within(1, 40);
                int beats = within(0, 999);
                return both(x.see(n, w, beats, is), y.see(n, w, beats, is));
        }
    }

    private long[] ask(int which) {
        int man = man();
        int w = work();
        int n = within(0, 200);
        int what = within(0, 3);
        switch (which) {
            case 16, 17, 18:
                int of = what == 0 ? w : man;
                return both(x.ahead(n, what, of), y.ahead(n, what, of));
            case 19:
                return both(x.done(w), y.done(w));
            case 20:
                return both(x.stops(), y.stops());
            case 21:
                what = within(0, 2);
                n = dice.in(3) ? within(1, 60) : within(1, 12);
                return both(x.pace(n, what), y.pace(n, what));
            case 22, 23:
                return both(x.crowd(n), y.crowd(n));
            case 24, 25:
                what = within(0, 1);
                return both(x.off(man, n, what), y.off(man, n, what));
            case 26:
                what = within(0, 1);
                return both(x.firstSlip(n, what), y.firstSlip(n, what));
            case 27:
                return both(x.goOn(), y.goOn());
            case 28, 29:
                n = within(1, 99);
                return both(x.startBy(w, n), y.startBy(w, n));
            case 30:
                return both(x.shifts(), y.shifts());
            case 31, 32:
                n = within(1, 99);
                int seed = within(0, 2147483646);
                return both(x.chance(seed, n, w), y.chance(seed, n, w));
            case 33, 34, 35:
                what = within(0, 4);
                n = within(0, 99);
                int i = what == 2 || dice.in(9) ? man : 0;
                return both(x.tried(what, i, n), y.tried(what, i, n));
            default:
                what = within(0, 2);
                int which2 = dice.in(2) ? man : w;
                return both(x.law(what, which2), y.law(what, which2));
        }
    }

    private long[] reckon(int which) {
        int man = man();
        int other = man();
        int w = work();
        switch (which) {
            case 40, 41:
                int what = within(0, 5);
                return both(theMan(man, what), y.man(man, what));
            case 42, 43:
                what = within(0, 5);
                return both(x.work(w, what), y.work(w, what));
            case 44:
                return both(x.tie(man, other), y.tie(man, other));
            case 45:
                return both(x.beat(), y.beat());
            case 46:
                int bits = within(0, 255);
                return both(x.bars(bits), y.bars(bits));
            case 47:
                int[] m = {within(1, 999), within(0, 999), within(1, 999), within(0, 999)};
                return both(x.meet(m[0], m[1], m[2], m[3]), y.meet(m[0], m[1], m[2], m[3]));
            case 48, 49:
                return both(x.cut(man, other), y.cut(man, other));
            case 50:
                return both(x.rests(man, other), y.rests(man, other));
            case 51:
                int k = within(0, 2);
                return both(x.rest(man, other, k), y.rest(man, other, k));
            case 52:
                return both(x.reaches(man), y.reaches(man));
            case 53:
                return both(x.slowest(), y.slowest());
            case 54, 55:
                int beats = dice.in(2) ? within(1, 9999) : within(100, 1999);
                return both(x.pack(beats), y.pack(beats));
            case 56:
                int second = work();
                return both(x.canon(w, second), y.canon(w, second));
            case 57, 58:
                int slips = within(0, 9999);
                what = within(0, 1);
                return both(x.strange(slips, what), y.strange(slips, what));
            case 59:
                return both(x.idle(), y.idle());
            case 60:
                what = within(0, 1);
                int letters = dice.from(0, 31) << 25 | (dice.in(5) ? dice.below(1 << 25) : 0);
                return both(x.named(what, letters), y.named(what, letters));
            case 61:
                what = within(0, 1);
                return both(x.fault(what), y.fault(what));
            default:
                what = within(0, 13);
                return both(x.count(what), y.count(what));
        }
    }

    private long theMan(int man, int what) {
        return Check.man(x, man, what);
    }
}
