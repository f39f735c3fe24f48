import java.util.ArrayList;
import java.util.List;

/** The calls of the face, answered by Model. */
final class Second {
    static final long NO_PERSON = -100;
    static final long NO_WHAT = -200;

    private final StringBuilder tape = new StringBuilder();
    private Model start = new Model("");
    private Model m = new Model("");
    private Model image = null;
    private final List<Model> undo = new ArrayList<>();
    private final List<Model.Sight> seen = new ArrayList<>();
    private int known = -1;
    private int fault = 0;
    private int faultPlace = -1;

    int feed(int... numbers) {
        if (tape.length() + 20 > 700) {
            return -1;
        }
        for (int number : numbers) {
            for (byte b : java.nio.ByteBuffer.allocate(4).putInt(number).array()) {
                tape.append((char) (b & 255));
            }
        }
        return tape.length();
    }

    int text(int n) {
        if (n < 0 || n > tape.length()) {
            return -2;
        }
        String text = tape.substring(0, n);
        tape.setLength(0);
        try {
            start = new Model(text);
        } catch (Model.Fault e) {
            fault = e.fault;
            faultPlace = e.place;
            return -1;
        }
        fault = 0;
        faultPlace = -1;
        m = start.copy();
        image = null;
        undo.clear();
        seen.clear();
        known = -1;
        return m.lines;
    }

    int fault(int what) {
        return what == 0 ? fault : what == 1 ? faultPlace : -1;
    }

    int named(int what, int letters) {
        StringBuilder name = new StringBuilder();
        boolean ended = false;
        for (int k = 25; k >= 0; k -= 5) {
            int letter = letters >> k & 31;
            if (letter > 26 || ended && letter > 0) {
                return -1;
            }
            ended |= letter == 0;
            if (letter > 0) {
                name.append((char) ('a' + letter - 1));
            }
        }
        if (letters >>> 30 != 0 || what != 0 && what != 1) {
            return -1;
        }
        return (what == 0 ? m.men : m.works).indexOf(name.toString());
    }

    private boolean man(int man) {
        return man >= 0 && man < m.men.size();
    }

    private boolean work(int work) {
        return work >= 0 && work < m.works.size();
    }

    private boolean here(int man) {
        return man(man) && m.here[man];
    }

    long man(int man, int what) {
        if (!man(man)) {
            return NO_PERSON;
        }
        int done = 0;
        for (int w = 0; w < m.left.length; w++) {
            done += m.told.get(w)[0] == man && m.left[w] == 0 ? 1 : 0;
        }
        int[] all = {m.fastAged.get(man)[0], m.fastAged.get(man)[1], m.slips[man], m.hiccups[man], m.here[man] ? 1 : 0, done};
        return what < 0 || what > 5 ? NO_WHAT : all[what];
    }

    int work(int work, int what) {
        if (!work(work) || what < 0 || what > 5) {
            return -1;
        }
        return what < 4 ? m.told.get(work)[what] : what == 4 ? m.left[work] : m.doneIn[work];
    }

    int tie(int one, int other) {
        return !man(one) || !man(other) ? -1 : m.tied(one, other) ? 1 : 0;
    }

    int beat() {
        return m.plainBeat();
    }

    long law(int what, int which) {
        if (what < 0 || what > 2 || what == 0 && !work(which) || what == 2 && !man(which)) {
            return Long.MIN_VALUE;
        }
        int man = what == 0 ? m.told.get(which)[0] : what == 2 ? which : -1;
        Long value = m.law(what, m.plainBeat(), man, what == 0 ? which : -1);
        return value == null ? Long.MIN_VALUE : value;
    }

    private void toUndo() {
        undo.add(m.copy());
        if (undo.size() > 20) {
            undo.remove(0);
        }
    }

    int shift(int much) {
        if (much < -99 || much > 99 || much == m.shift) {
            return 0;
        }
        toUndo();
        m.shift = much;
        return 1;
    }

    int wind(int much) {
        if (much < 1 || much > 999 || m.coil + much > 999) {
            return -1;
        }
        toUndo();
        m.coil += much;
        return m.coil;
    }

    int hiccup(int man, int hours) {
        if (!here(man) || hours < 0 || hours > 9 || m.hiccups[man] == hours) {
            return 0;
        }
        toUndo();
        m.hiccups[man] = hours;
        return 1;
    }

    int aunt(int man, boolean goes) {
        if (!man(man) || m.here[man] != goes) {
            return 0;
        }
        toUndo();
        m.here[man] = !goes;
        m.hiccups[man] = 0;
        return 1;
    }

    int go(int n) {
        if (n < 0 || n > 99 || m.hour + n > 9900) {
            return -1;
        }
        m.hours(n, 0);
        if (n > 0) {
            undo.clear();
        }
        return m.hour;
    }

    int ahead(int n, int what, int which) {
        if (n < 0 || n > 200 || what < 0 || what > 3 || what == 0 && !work(which) || what == 1 && !man(which)) {
            return -1;
        }
        Model then = m.copy().hours(n, 1);
        return what == 0 ? then.left[which] : what == 1 ? then.slips[which] - m.slips[which] : what == 2 ? then.coil
            : then.doneCount() - m.doneCount();
    }

    int done(int work) {
        if (!work(work)) {
            return -1;
        }
        Model then = m.copy();
        int n = 0;
        while (then.left[work] > 0 && n <= 200) {
            then.hour(1);
            n++;
        }
        return n > 200 ? -2 : n;
    }

    int stops() {
        Model then = m.copy();
        int n = 0;
        while (then.coil > 0 && n <= 999) {
            then.hour(1);
            n++;
        }
        return n > 999 ? -2 : n;
    }

    int pace(int n, int what) {
        if (n < 1 || n > 60 || what < 0 || what > 2) {
            return -1;
        }
        int[] best = null;
        for (int speed = 99; speed >= 1; speed--) {
            Model then = m.copy();
            then.speeds = List.of(speed);
            then.hours(n, 1);
            int[] one = {speed, then.doneCount() - m.doneCount(), then.allSlips() - m.allSlips()};
            if (best == null || one[1] > best[1] || one[1] == best[1] && one[2] <= best[2]) {
                best = one;
            }
        }
        return best[what];
    }

    int bars(int works) {
        if (works < 0 || works >> m.works.size() != 0) {
            return -1;
        }
        for (int beat = 1; works > 0; beat++) {
            boolean all = true;
            for (int w = 0; w < m.works.size(); w++) {
                all &= (works >> w & 1) == 0 || beat % m.told.get(w)[2] == 0;
            }
            if (all) {
                return beat;
            }
        }
        return 0;
    }

    int meet(int a, int b, int c, int d) {
        if (a < 1 || a > 999 || c < 1 || c > 999 || b < 0 || b > 999 || d < 0 || d > 999) {
            return -1;
        }
        for (int minute = Math.max(b, d); minute < 1000000; minute++) {
            if ((minute - b) % a == 0 && (minute - d) % c == 0) {
                return minute;
            }
        }
        return -2;
    }

    int cut(int one, int other) {
        if (!here(one) || !here(other) || one == other) {
            return -1;
        }
        if (m.tied(one, other)) {
            return -2;
        }
        for (int many = 0; many <= 6; many++) {
            for (int away = 0; away < 64; away++) {
                boolean may = Integer.bitCount(away) == many && ((away >> one | away >> other) & 1) == 0;
                for (int man = 0; man < 6; man++) {
                    may &= (away >> man & 1) == 0 || here(man);
                }
                if (may && (m.reach(one, away) >> other & 1) == 0) {
                    return away;
                }
            }
        }
        throw new IllegalStateException("no cut");
    }

    int crowd(int n) {
        return n < 0 || n > 200 ? -1 : m.copy().hours(n, 1).doneBits() - m.doneBits();
    }

    int off(int man, int n, int what) {
        if (!man(man) || n < 1 || n > 200 || what < 0 || what > 1) {
            return -1;
        }
        Model then = m.copy();
        int above = 0;
        int below = 0;
        for (int k = 0; k < n; k++) {
            then.hour(1);
            above += then.slipped[man] ? 1 : 0;
            boolean any = false;
            for (int w = 0; w < then.worked.length; w++) {
                any |= then.worked[w] && then.told.get(w)[0] == man;
            }
            below += any ? 1 : 0;
        }
        below = Math.max(below, 1);
        for (int by = below; by > 1; by--) {
            if (above % by == 0 && below % by == 0) {
                above /= by;
                below /= by;
            }
        }
        return what == 0 ? above : below;
    }

    private List<Integer> allRests(int one, int other) {
        List<Integer> rests = new ArrayList<>();
        int a = m.fastAged.get(one)[0];
        int b = m.fastAged.get(other)[0];
        for (int x = 0; x < 2; x++) {
            for (int y = 0; y < 2; y++) {
                if (loss(a, x, y) <= loss(a, 1 - x, y) && loss(b, y, x) <= loss(b, 1 - y, x)) {
                    rests.add(10 * x + y);
                }
            }
        }
        return rests;
    }

    private static int loss(int fast, int said, int other) {
        int[] speed = {40, 80};
        int mean = (speed[said] + speed[other]) / 2;
        boolean nearest = Math.abs(fast - speed[said]) < Math.abs(fast - speed[1 - said])
            || Math.abs(fast - speed[said]) == Math.abs(fast - speed[1 - said]) && said == 0;
        return (mean > fast ? (mean - fast) / 10 : 0) + (mean < fast - 20 ? (fast - 20 - mean) / 10 : 0) + (nearest ? 0 : 1);
    }

    int rests(int one, int other) {
        return !man(one) || !man(other) || one == other ? -1 : allRests(one, other).size();
    }

    int rest(int one, int other, int k) {
        if (!man(one) || !man(other) || one == other || k < 0) {
            return -1;
        }
        List<Integer> rests = allRests(one, other);
        return k < rests.size() ? rests.get(k) : -2;
    }

    int reaches(int man) {
        return here(man) ? m.reach(man, 0) : -1;
    }

    int slowest() {
        int slowest = -2;
        for (int man = m.men.size() - 1; man >= 0; man--) {
            if (m.here[man] && (slowest < 0 || m.fastAged.get(man)[0] <= m.fastAged.get(slowest)[0])) {
                slowest = man;
            }
        }
        return slowest;
    }

    int pack(int beats) {
        if (beats < 1 || beats > 9999) {
            return -1;
        }
        int days = m.fewestDays(0, new int[8], 0, beats);
        return days == 99 ? -2 : days;
    }

    int canon(int one, int other) {
        if (!work(one) || !work(other) || one == other) {
            return -1;
        }
        int begin = 0;
        while (begin + m.told.get(other)[1] < m.told.get(one)[1]) {
            begin += m.told.get(one)[2];
        }
        return begin;
    }

    int strange(int slips, int what) {
        if (slips < 0 || slips > 9999 || what < 0 || what > 1) {
            return -1;
        }
        int bits = 0;
        for (int man = 0; man < m.men.size(); man++) {
            boolean stranger = m.fastAged.get(man)[0] < m.plainBeat();
            bits |= m.here[man] && m.slips[man] >= slips && stranger == (what == 0) ? 1 << man : 0;
        }
        return bits;
    }

    int firstSlip(int n, int what) {
        if (n < 1 || n > 200 || what < 0 || what > 1) {
            return -1;
        }
        Model then = m.copy();
        for (int k = 1; k <= n; k++) {
            then.hour(1);
            for (int man = 0; man < then.slips.length; man++) {
                if (then.slips[man] > m.slips[man]) {
                    return what == 0 ? k : man;
                }
            }
        }
        return -2;
    }

    int goOn() {
        int bits = 0;
        for (int w = 0; w < m.works.size(); w++) {
            bits |= m.goesOn(w) ? 1 << w : 0;
        }
        return bits;
    }

    int startBy(int work, int n) {
        if (!work(work) || m.left[work] == 0 || n < 1 || n > 99) {
            return -1;
        }
        for (int at = n - 1; at >= 0; at--) {
            Model then = m.copy();
            then.told = new ArrayList<>(m.told);
            int[] told = m.told.get(work).clone();
            told[3] = m.hour + at;
            then.told.set(work, told);
            if (then.hours(n, 1).left[work] == 0) {
                return at;
            }
        }
        return -2;
    }

    int idle() {
        int bits = 0;
        for (int man = 0; man < m.men.size(); man++) {
            boolean idle = m.here[man];
            for (int w = 0; w < m.left.length; w++) {
                idle &= m.told.get(w)[0] != man || m.left[w] == 0;
            }
            bits |= idle ? 1 << man : 0;
        }
        return bits;
    }

    int see(int hours, int work, int beats, boolean atLeast) {
        if (hours < 1 || hours > 40 || !work(work) || beats < 0 || beats > 999 || seen.size() == 24) {
            return -1;
        }
        seen.add(new Model.Sight(-1, hours, work, beats, atLeast));
        return seen.size() - 1;
    }

    int strike(int at) {
        if (at < 0 || at >= seen.size() || seen.size() == 24) {
            return -1;
        }
        seen.add(new Model.Sight(at, 0, 0, 0, false));
        return seen.size() - 1;
    }

    int known(int n) {
        if (n < -1 || n > seen.size()) {
            return 0;
        }
        known = n;
        return 1;
    }

    private boolean struck(int at, int n) {
        for (int by = at + 1; by < n; by++) {
            if (seen.get(by).strike() == at && !struck(by, n)) {
                return true;
            }
        }
        return false;
    }

    int shifts() {
        int n = known < 0 ? seen.size() : known;
        int bits = 0;
        for (int k = 0; k < 10; k++) {
            boolean all = true;
            for (int at = 0; at < n && all; at++) {
                Model.Sight sight = seen.get(at);
                if (sight.strike() < 0 && !struck(at, n)) {
                    Model then = start.copy();
                    then.shift = 3 * k;
                    then.hours(sight.hours(), 1);
                    all = then.left[sight.work()] >= sight.beats() == sight.atLeast();
                }
            }
            bits |= all ? 1 << k : 0;
        }
        return bits;
    }

    int chance(int seed, int n, int work) {
        if (seed < 0 || n < 1 || n > 99 || !work(work)) {
            return -1;
        }
        long number = seed;
        int times = 0;
        for (int k = 0; k < 10; k++) {
            Model then = m.copy();
            then.number = number;
            then.hours(n, 0);
            number = then.number;
            times += then.left[work] == 0 ? 1 : 0;
        }
        return times;
    }

    int tried(int what, int i, int n) {
        if (what < 0 || what > 4 || n < 0 || n > 99 || what != 2 && i != 0 || what == 2 && !man(i)) {
            return -1;
        }
        Model then = m.copy();
        if (what == 1) {
            java.util.Arrays.fill(then.hiccups, 0);
        } else if (what == 2) {
            then.here[i] = false;
            then.hiccups[i] = 0;
        } else if (what == 3) {
            then.coil = 999;
        } else if (what == 4) {
            then.shift = 0;
        }
        return then.hours(n, what == 0 ? 2 : 1).allSlips() - m.allSlips();
    }

    int undo() {
        if (undo.isEmpty()) {
            return -1;
        }
        m = undo.remove(undo.size() - 1);
        return undo.size();
    }

    int keep() {
        image = m.copy();
        return m.hour;
    }

    int back() {
        if (image == null) {
            return -1;
        }
        m = image.copy();
        undo.clear();
        return m.hour;
    }

    int count(int what) {
        int hiccups = 0;
        int here = 0;
        for (int man = 0; man < m.men.size(); man++) {
            hiccups += m.hiccups[man] > 0 ? 1 : 0;
            here += m.here[man] ? 1 : 0;
        }
        int[] all = {m.men.size(), m.ties.size(), m.works.size(), m.knots, m.hour, m.coil, m.shift, m.doneCount(),
            m.allSlips(), hiccups, here, seen.size(), known < 0 ? seen.size() : known, undo.size()};
        return what < 0 || what > 13 ? -1 : all[what];
    }
}
