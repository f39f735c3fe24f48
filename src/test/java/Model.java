import java.math.BigInteger;
import java.util.ArrayList;
import java.util.Arrays;
import java.util.List;

/** The document once more, as plainly as can be: slow, with trees, big numbers and trying out. */
final class Model implements Cloneable {
    static final class Fault extends RuntimeException {
        private static final long serialVersionUID = 1L;
        final int fault;
        final int place;

        Fault(int fault, int place) {
            this.fault = fault;
            this.place = place;
        }
    }

    /** An E: a sign with parts, an N or a NAME. */
    record Tree(String sign, List<Tree> parts) {
    }

    record Token(String word, int place) {
    }

    record Sight(int strike, int hours, int work, int beats, boolean atLeast) {
    }

    static final List<String> LANGUAGE = List.of("man", "tie", "work", "speed", "spring", "wasp", "seed", "law", "slip",
        "wear", "hush", "not", "and", "or", "beat", "fast", "aged", "left", "bar", "coil", "hour");
    static final List<String> LAWS = List.of("slip", "wear", "hush");
    static final List<String> NAMES = List.of("beat", "fast", "aged", "left", "bar", "coil", "hour");
    static final BigInteger MOST = BigInteger.TEN.pow(12);

    // told
    List<String> men = new ArrayList<>();
    List<int[]> fastAged = new ArrayList<>();
    List<String> works = new ArrayList<>();
    List<int[]> told = new ArrayList<>();
    List<String> ties = new ArrayList<>();
    List<Integer> speeds = new ArrayList<>();
    int spring = -1;
    int wasp = -1;
    int seed = -1;
    Tree[] laws = new Tree[3];
    int knots = 0;
    int lines = 0;
    // now
    int hour = 0;
    int coil;
    int shift = 0;
    long number;
    boolean[] here;
    int[] slips;
    int[] hiccups;
    int[] left;
    int[] doneIn;
    boolean[] worked;
    boolean[] slipped;

    // reading
    private List<Token> tokens;
    private int at = 0;
    private int open = 0;

    Model(String text) {
        tokens = cut(text);
        while (at < tokens.size() - 1) {
            line();
            take(";");
            lines++;
        }
        spring = spring < 0 ? 200 : spring;
        wasp = Math.max(wasp, 0);
        seed = Math.max(seed, 0);
        coil = spring;
        number = seed;
        here = new boolean[men.size()];
        Arrays.fill(here, true);
        slips = new int[men.size()];
        hiccups = new int[men.size()];
        left = new int[works.size()];
        doneIn = new int[works.size()];
        Arrays.fill(doneIn, -1);
        for (int w = 0; w < left.length; w++) {
            left[w] = told.get(w)[1];
        }
        worked = new boolean[works.size()];
        slipped = new boolean[men.size()];
    }

    Model copy() {
        try {
            Model m = (Model) clone();
            m.here = here.clone();
            m.slips = slips.clone();
            m.hiccups = hiccups.clone();
            m.left = left.clone();
            m.doneIn = doneIn.clone();
            m.worked = worked.clone();
            m.slipped = slipped.clone();
            return m;
        } catch (CloneNotSupportedException e) {
            throw new IllegalStateException(e);
        }
    }

    // ---- reading

    private static List<Token> cut(String text) {
        List<Token> tokens = new ArrayList<>();
        int from = 0;
        while (from < text.length()) {
            int to = from + 1;
            char c = text.charAt(from);
            if (Character.toString(c).matches("[a-z]")) {
                while (to < text.length() && text.substring(from, to + 1).matches("[a-z]+")) {
                    to++;
                }
            } else if (Character.toString(c).matches("[0-9]")) {
                while (to < text.length() && text.substring(from, to + 1).matches("[0-9]+")) {
                    to++;
                }
            } else if (from + 2 <= text.length() && text.substring(from, from + 2).matches("<=|<>|>=")) {
                to = from + 2;
            }
            if (c != ' ' && c != '\n') {
                tokens.add(new Token(text.substring(from, to), from));
            }
            from = to;
        }
        tokens.add(new Token("", text.length()));
        return tokens;
    }

    private String word() {
        return tokens.get(at).word;
    }

    private Fault fault(int what) {
        return new Fault(what, tokens.get(at).place);
    }

    private String take(String regex) {
        String word = word();
        if (!word.matches(regex)) {
            throw fault(1);
        }
        at++;
        return word;
    }

    private int take(int least, int most) {
        String word = word();
        if (!word.matches("[0-9]+")) {
            throw fault(1);
        }
        BigInteger n = new BigInteger(word);
        if (n.compareTo(BigInteger.valueOf(least)) < 0 || n.compareTo(BigInteger.valueOf(most)) > 0) {
            throw fault(2);
        }
        at++;
        return n.intValue();
    }

    private void mustBeName() {
        if (!word().matches("[a-z]{1,6}") || LANGUAGE.contains(word())) {
            throw fault(1);
        }
    }

    private String newName(List<String> names) {
        mustBeName();
        if (names.contains(word())) {
            throw fault(3);
        }
        return tokens.get(at++).word;
    }

    private int person() {
        mustBeName();
        if (!men.contains(word())) {
            throw fault(4);
        }
        return men.indexOf(tokens.get(at++).word);
    }

    private void room(int has, int most) {
        if (has >= most) {
            throw fault(2);
        }
        at++;
    }

    private int once(int before, int most) {
        if (before >= 0) {
            throw fault(3);
        }
        at++;
        return take(0, most);
    }

    private void line() {
        switch (word()) {
            case "man" -> {
                room(men.size(), 6);
                String name = newName(men);
                int fast = take(1, 199);
                int aged = take(0, 99);
                men.add(name);
                fastAged.add(new int[] {fast, aged});
            }
            case "tie" -> {
                room(ties.size(), 9);
                int one = person();
                int other = person();
                at--;
                String tie = Math.min(one, other) + "-" + Math.max(one, other);
                if (ties.contains(tie)) {
                    throw fault(3);
                }
                if (one == other) {
                    throw fault(5);
                }
                at++;
                ties.add(tie);
            }
            case "work" -> {
                room(works.size(), 8);
                String name = newName(works);
                int man = person();
                told.add(new int[] {man, take(1, 999), take(1, 12), take(0, 99)});
                works.add(name);
            }
            case "speed" -> {
                room(speeds.size(), 8);
                speeds.add(take(1, 199));
            }
            case "spring" -> spring = once(spring, 999);
            case "wasp" -> wasp = once(wasp, 100);
            case "seed" -> seed = once(seed, 99999);
            case "law" -> law();
            default -> throw fault(1);
        }
    }

    private void law() {
        at++;
        int law = LAWS.indexOf(word());
        if (law < 0) {
            throw fault(1);
        }
        if (laws[law] != null) {
            throw fault(3);
        }
        at++;
        laws[law] = level(0);
    }

    private String knot() {
        if (knots == 64) {
            throw fault(2);
        }
        knots++;
        return tokens.get(at++).word;
    }

    private static final String[] SIGNS = {"or", "and", "", "<|<=|=|<>|>=|>", "[+]|-", "[*]|/"};

    private Tree level(int level) {
        if (level == 6) {
            return part();
        }
        if (level == 2) {
            return word().equals("not") ? new Tree(knot(), List.of(level(2))) : level(3);
        }
        Tree tree = level(level + 1);
        int most = level == 3 ? 1 : 1000;
        for (int k = 0; k < most && word().matches(SIGNS[level]); k++) {
            tree = new Tree(knot(), List.of(tree, level(level + 1)));
        }
        return tree;
    }

    private Tree part() {
        if (word().equals("(")) {
            if (open == 8) {
                throw fault(2);
            }
            open++;
            at++;
            Tree tree = level(0);
            take("[)]");
            open--;
            return tree;
        }
        if (word().matches("[0-9]+")) {
            take(0, 9999);
            at--;
        } else if (!NAMES.contains(word())) {
            throw fault(1);
        }
        return new Tree(knot(), List.of());
    }

    // ---- values

    private BigInteger value(Tree tree, long[] names) {
        List<BigInteger> v = new ArrayList<>();
        for (Tree part : tree.parts) {
            v.add(value(part, names));
        }
        BigInteger value = switch (tree.sign) {
            case "or" -> bit(v.get(0).signum() != 0 || v.get(1).signum() != 0);
            case "and" -> bit(v.get(0).signum() != 0 && v.get(1).signum() != 0);
            case "not" -> bit(v.get(0).signum() == 0);
            case "<" -> bit(v.get(0).compareTo(v.get(1)) < 0);
            case "<=" -> bit(v.get(0).compareTo(v.get(1)) <= 0);
            case "=" -> bit(v.get(0).compareTo(v.get(1)) == 0);
            case "<>" -> bit(v.get(0).compareTo(v.get(1)) != 0);
            case ">=" -> bit(v.get(0).compareTo(v.get(1)) >= 0);
            case ">" -> bit(v.get(0).compareTo(v.get(1)) > 0);
            case "+" -> v.get(0).add(v.get(1));
            case "-" -> v.get(0).subtract(v.get(1));
            case "*" -> v.get(0).multiply(v.get(1));
            case "/" -> v.get(0).divide(v.get(1));
            default -> NAMES.contains(tree.sign) ? BigInteger.valueOf(names[NAMES.indexOf(tree.sign)])
                : new BigInteger(tree.sign);
        };
        if (value.abs().compareTo(MOST) > 0) {
            throw new ArithmeticException();
        }
        return value;
    }

    private static BigInteger bit(boolean is) {
        return is ? BigInteger.ONE : BigInteger.ZERO;
    }

    /** null: no law, or an ERROR. */
    Long law(int law, int beat, int man, int work) {
        if (laws[law] == null) {
            return null;
        }
        long[] names = {beat, man < 0 ? 0 : fastAged.get(man)[0], man < 0 ? 0 : fastAged.get(man)[1],
            work < 0 ? 0 : left[work], work < 0 ? 0 : told.get(work)[2], coil, hour};
        try {
            return value(laws[law], names).longValueExact();
        } catch (ArithmeticException e) {
            return null;
        }
    }

    private int within(Long value, int least, int most, int without) {
        return value == null ? without : (int) Math.max(least, Math.min(most, value));
    }

    // ---- hours

    int plainBeat() {
        if (coil == 0) {
            return 0;
        }
        int speed = speeds.isEmpty() ? 60 : speeds.get(hour % speeds.size());
        return Math.max(1, Math.min(199, speed + shift));
    }

    boolean tied(int one, int other) {
        return ties.contains(Math.min(one, other) + "-" + Math.max(one, other));
    }

    boolean goesOn(int w) {
        int man = told.get(w)[0];
        return plainBeat() > 0 && told.get(w)[3] <= hour && left[w] > 0 && here[man] && hiccups[man] == 0;
    }

    /** One HOUR: way 0 by numbers, 1 as it goes, 2 without WASPS. */
    void hour(int way) {
        int beat = plainBeat();
        boolean in = wasp == 100;
        if (wasp > 0 && wasp < 100 && beat > 0) {
            if (way == 0) {
                number = BigInteger.valueOf(number).multiply(BigInteger.valueOf(1103515245L))
                    .add(BigInteger.valueOf(12345)).mod(BigInteger.ONE.shiftLeft(31)).longValue();
                in = number / 65536 % 100 < wasp;
            } else {
                in = wasp >= 50;
            }
        }
        if (in && way != 2) {
            beat = Math.min(199, 2 * beat);
        }
        Arrays.fill(slipped, false);
        for (int w = 0; w < left.length; w++) {
            worked[w] = goesOn(w);
            if (worked[w]) {
                int man = told.get(w)[0];
                int slip = within(law(0, beat, man, w), 0, 99, Math.max(0, beat - fastAged.get(man)[0]) / 10);
                slips[man] += slip;
                slipped[man] |= slip > 0;
                left[w] = Math.max(0, left[w] - beat);
                if (left[w] == 0) {
                    doneIn[w] = hour;
                }
            }
        }
        int[] had = hiccups.clone();
        for (int one = 0; one < had.length; one++) {
            for (int other = 0; other < had.length; other++) {
                if (had[one] > 0 && tied(one, other) && here[other] && had[other] == 0) {
                    hiccups[other] = within(law(2, beat, other, -1), 1, 9, 1 + fastAged.get(other)[1] / 20);
                }
            }
        }
        for (int one = 0; one < had.length; one++) {
            hiccups[one] -= had[one] > 0 ? 1 : 0;
        }
        coil = Math.max(0, coil - within(law(1, beat, -1, -1), 0, 99, 1));
        hour++;
    }

    Model hours(int n, int way) {
        for (int k = 0; k < n; k++) {
            hour(way);
        }
        return this;
    }

    int allSlips() {
        return Arrays.stream(slips).sum();
    }

    int doneBits() {
        int bits = 0;
        for (int w = 0; w < left.length; w++) {
            bits |= left[w] == 0 ? 1 << w : 0;
        }
        return bits;
    }

    int doneCount() {
        return Integer.bitCount(doneBits());
    }

    int reach(int man, int away) {
        int reached = 1 << man;
        for (int other = 0; other < here.length; other++) {
            if (tied(man, other) && here[other] && (away >> other & 1) == 0) {
                reached |= 1 << other | reach(other, away | 1 << man);
            }
        }
        return reached;
    }

    int fewestDays(int w, int[] days, int used, int beats) {
        if (w == left.length) {
            return used;
        }
        if (left[w] == 0) {
            return fewestDays(w + 1, days, used, beats);
        }
        int best = 99;
        for (int day = 0; day <= used && day < days.length; day++) {
            if (days[day] + left[w] <= beats) {
                days[day] += left[w];
                best = Math.min(best, fewestDays(w + 1, days, Math.max(used, day + 1), beats));
                days[day] -= left[w];
            }
        }
        return best;
    }
}
