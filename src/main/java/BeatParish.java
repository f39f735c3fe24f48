import java.util.NoSuchElementException;

/** The metronome's parish; what each call answers stands in the document, promises 1 to 45. */
public final class BeatParish {
    public static final int NONE = -1;

    private static final int NOT_SO = -2;
    private static final int MOST_TAPE = 700;
    private static final int MOST_PEOPLE = 6;
    private static final int MOST_TIES = 9;
    private static final int MOST_WORKS = 8;
    private static final int MOST_SPEEDS = 8;
    private static final int MOST_KNOTS = 64;
    private static final int MOST_OPEN = 8;
    private static final int LAWS = 3;
    private static final int SLIP_LAW = 0;
    private static final int WEAR_LAW = 1;
    private static final int HUSH_LAW = 2;
    private static final int MOST_COIL = 999;
    private static final int MOST_SHIFT = 99;
    private static final int MOST_BEAT = 199;
    private static final int LAST_HOUR = 9900;
    private static final int MOST_AHEAD = 200;
    private static final int MOST_GO = 99;
    private static final int SHIFTS_TRIED = 10;
    private static final int TIMES_DRAWN = 10;
    private static final int DAY = 10000;

    private final int[] tape = new int[MOST_TAPE];
    private int taped = 0;
    private Told told = new Told();
    private Told draft = new Told();
    private final Reader reader = new Reader(draft);
    private final Clock clock = new Clock(told);
    private final State now = new State();
    private final State trial = new State();
    private final State image = new State();
    private boolean imaged = false;
    private final Deeds deeds = new Deeds();
    private final Sights sights = new Sights();
    // what pack() reckons for each set of WORKS; 0 of the empty one
    private final int[] packed = new int[1 << MOST_WORKS];
    // by how many beats a WORK would go on in each HOUR to come
    private final int[] gains = new int[MOST_GO];

    public BeatParish() {
        now.begin(told);
    }

    public int feed(int a, int b, int c, int d, int e) {
        if (taped + 20 > MOST_TAPE) {
            return NONE;
        }
        feedFour(a);
        feedFour(b);
        feedFour(c);
        feedFour(d);
        feedFour(e);
        return taped;
    }

    private void feedFour(int number) {
        for (int high = 24; high >= 0; high -= 8) {
            put(tape, taped, number >>> high & 255);
            taped++;
        }
    }

    public int text(int n) {
        if (n < 0 || n > taped) {
            return NOT_SO;
        }
        taped = 0;
        int lines = reader.read(tape, n, draft);
        if (lines != NONE) {
            Told before = told;
            told = draft;
            draft = before;
            clock.turnTo(told);
            now.begin(told);
            imaged = false;
            deeds.forget();
            sights.forget();
        }
        return lines;
    }

    public int fault(int what) {
        switch (what) {
            case 0:
                return reader.fault;
            case 1:
                return reader.faultPlace;
            default:
                return NONE;
        }
    }

    public int named(int what, int letters) {
        switch (what) {
            case 0:
                return find(told.manNames, told.people, letters);
            case 1:
                return find(told.workNames, told.works, letters);
            default:
                return NONE;
        }
    }

    public int man(int man, int what) throws IndexOutOfBoundsException, NoSuchElementException {
        if (!told.isMan(man)) {
            throw new IndexOutOfBoundsException("no such person");
        }
        switch (what) {
            case 0:
                return at(told.fast, man);
            case 1:
                return at(told.aged, man);
            case 2:
                return at(now.slips, man);
            case 3:
                return at(now.hiccups, man);
            case 4:
                return has(now.here, man) ? 1 : 0;
            case 5:
                return doneOf(man);
            default:
                throw new NoSuchElementException("no such what");
        }
    }

    private int doneOf(int man) {
        int done = 0;
        for (int work = 0; work < told.works; work++) {
            if (at(told.owners, work) == man && now.isDone(work)) {
                done++;
            }
        }
        return done;
    }

    public int work(int work, int what) {
        if (!told.isWork(work)) {
            return NONE;
        }
        switch (what) {
            case 0:
                return at(told.owners, work);
            case 1:
                return at(told.beats, work);
            case 2:
                return at(told.bars, work);
            case 3:
                return at(told.begins, work);
            case 4:
                return at(now.left, work);
            case 5:
                return at(now.doneIn, work);
            default:
                return NONE;
        }
    }

    public int tie(int one, int other) {
        if (!told.isMan(one) || !told.isMan(other)) {
            return NONE;
        }
        return told.areTied(one, other) ? 1 : 0;
    }

    public int beat() {
        return clock.plainBeat(now);
    }

    public long law(int what, int which) {
        int man = NONE;
        int work = NONE;
        if (what == SLIP_LAW) {
            if (!told.isWork(which)) {
                return Reckoner.ERROR;
            }
            work = which;
            man = at(told.owners, work);
        } else if (what == HUSH_LAW) {
            if (!told.isMan(which)) {
                return Reckoner.ERROR;
            }
            man = which;
        } else if (what != WEAR_LAW) {
            return Reckoner.ERROR;
        }
        clock.name(now, clock.plainBeat(now), man, work);
        return clock.reckoner.value(told, what);
    }

    public boolean shift(int much) {
        if (much < -MOST_SHIFT || much > MOST_SHIFT || much == now.shift) {
            return false;
        }
        deeds.add(Deeds.SHIFTED, NONE, now.shift);
        now.shift = much;
        return true;
    }

    public int wind(int much) {
        if (much < 1 || much > MOST_COIL || now.coil + much > MOST_COIL) {
            return NONE;
        }
        deeds.add(Deeds.WOUND, NONE, now.coil);
        now.coil += much;
        return now.coil;
    }

    public boolean hiccup(int man, int hours) {
        if (!isHere(man) || hours < 0 || hours > 9 || at(now.hiccups, man) == hours) {
            return false;
        }
        deeds.add(Deeds.HICCUPPED, man, at(now.hiccups, man));
        put(now.hiccups, man, hours);
        return true;
    }

    public boolean aunt(int man, boolean goes) {
        if (!told.isMan(man) || has(now.here, man) != goes) {
            return false;
        }
        if (goes) {
            deeds.add(Deeds.WENT, man, at(now.hiccups, man));
            now.sendAway(man);
        } else {
            deeds.add(Deeds.CAME, man, 0);
            now.here |= 1 << man;
        }
        return true;
    }

    public int go(int n) {
        if (n < 0 || n > MOST_GO || now.hour + n > LAST_HOUR) {
            return NONE;
        }
        for (int k = 0; k < n; k++) {
            clock.pass(now, Clock.DRAWN);
        }
        if (n > 0) {
            deeds.forget();
        }
        return now.hour;
    }

    public int ahead(int n, int what, int which) {
        if (n < 0 || n > MOST_AHEAD || what < 0 || what > 3) {
            return NONE;
        }
        if (what == 0 && !told.isWork(which) || what == 1 && !told.isMan(which)) {
            return NONE;
        }
        trial.copy(now);
        tryHours(n, Clock.AS_IT_GOES);
        switch (what) {
            case 0:
                return at(trial.left, which);
            case 1:
                return at(trial.slips, which) - at(now.slips, which);
            case 2:
                return trial.coil;
            default:
                return trial.doneCount(told.works) - now.doneCount(told.works);
        }
    }

    private void tryHours(int n, int way) {
        for (int k = 0; k < n; k++) {
            clock.pass(trial, way);
        }
    }

    public int done(int work) {
        if (!told.isWork(work)) {
            return NONE;
        }
        trial.copy(now);
        for (int k = 0; k <= MOST_AHEAD; k++) {
            if (trial.isDone(work)) {
                return k;
            }
            clock.pass(trial, Clock.AS_IT_GOES);
        }
        return NOT_SO;
    }

    public int stops() {
        trial.copy(now);
        for (int k = 0; k <= 999; k++) {
            if (trial.coil == 0) {
                return k;
            }
            clock.pass(trial, Clock.AS_IT_GOES);
        }
        return NOT_SO;
    }

    public int pace(int n, int what) {
        if (n < 1 || n > 60 || what < 0 || what > 2) {
            return NONE;
        }
        int best = 0;
        int most = NONE;
        int fewest = 0;
        for (int speed = 1; speed <= 99; speed++) {
            tryPace(n, speed);
            int more = trial.doneCount(told.works) - now.doneCount(told.works);
            int slips = trial.allSlips() - now.allSlips();
            if (more > most || more == most && slips < fewest) {
                best = speed;
                most = more;
                fewest = slips;
            }
        }
        return what == 0 ? best : what == 1 ? most : fewest;
    }

    private void tryPace(int n, int speed) {
        trial.copy(now);
        clock.instead = speed;
        // behind COIL 0 nothing that PACE asks for can change
        for (int k = 0; k < n && trial.coil > 0; k++) {
            clock.pass(trial, Clock.AS_IT_GOES);
        }
        clock.instead = 0;
    }

    public int bars(int works) {
        if (works < 0 || works >= 1 << told.works) {
            return NONE;
        }
        if (works == 0) {
            return 0;
        }
        int beats = 1;
        for (int work = 0; work < told.works; work++) {
            if (has(works, work)) {
                int bar = at(told.bars, work);
                int common = gcd(beats, bar);
                beats = common < 1 ? beats : beats / common * bar;
            }
        }
        return beats;
    }

    public int meet(int a, int b, int c, int d) {
        if (a < 1 || a > 999 || b < 0 || b > 999 || c < 1 || c > 999 || d < 0 || d > 999) {
            return NONE;
        }
        int first = b < d ? b + (d - b + a - 1) / a * a : b;
        for (int k = 0; k < c; k++) {
            int minute = first + k * a;
            if ((minute - d) % c == 0) {
                return minute;
            }
        }
        return NOT_SO;
    }

    public int cut(int one, int other) {
        if (!isHere(one) || !isHere(other) || one == other) {
            return NONE;
        }
        if (told.areTied(one, other)) {
            return NOT_SO;
        }
        int others = now.here & ~(1 << one) & ~(1 << other);
        int best = others;
        for (int away = 0; away < others; away++) {
            // a lesser one of as many went ahead
            boolean fewer = Integer.bitCount(away) < Integer.bitCount(best);
            if ((away & ~others) == 0 && fewer && !has(told.reach(one, now.here & ~away), other)) {
                best = away;
            }
        }
        return best;
    }

    public int crowd(int n) {
        if (n < 0 || n > MOST_AHEAD) {
            return NONE;
        }
        trial.copy(now);
        tryHours(n, Clock.AS_IT_GOES);
        return trial.doneBits(told.works) & ~now.doneBits(told.works);
    }

    public int off(int man, int n, int what) {
        if (!told.isMan(man) || n < 1 || n > MOST_AHEAD || what < 0 || what > 1) {
            return NONE;
        }
        int own = told.worksOf(man);
        int slipped = 0;
        int worked = 0;
        trial.copy(now);
        for (int k = 0; k < n; k++) {
            clock.pass(trial, Clock.AS_IT_GOES);
            if (has(trial.slipped, man)) {
                slipped++;
            }
            if ((trial.wentOn & own) != 0) {
                worked++;
            }
        }
        int common = gcd(slipped, worked);
        if (worked == 0 || common == 0) {
            return what;
        }
        return what == 0 ? slipped / common : worked / common;
    }

    public int rests(int one, int other) {
        if (!told.isMan(one) || !told.isMan(other) || one == other) {
            return NONE;
        }
        int rests = 0;
        for (int said = 0; said < 4; said++) {
            if (isRest(at(told.fast, one), at(told.fast, other), said >> 1, said & 1)) {
                rests++;
            }
        }
        return rests;
    }

    public int rest(int one, int other, int k) {
        if (!told.isMan(one) || !told.isMan(other) || one == other || k < 0) {
            return NONE;
        }
        int ahead = 0;
        for (int said = 0; said < 4; said++) {
            if (isRest(at(told.fast, one), at(told.fast, other), said >> 1, said & 1)) {
                if (ahead == k) {
                    return 10 * (said >> 1) + (said & 1);
                }
                ahead++;
            }
        }
        return NOT_SO;
    }

    private static boolean isRest(int fastOne, int fastOther, int one, int other) {
        return loss(fastOne, one, other) <= loss(fastOne, 1 - one, other)
            && loss(fastOther, other, one) <= loss(fastOther, 1 - other, one);
    }

    /** What one of so much FAST loses by a BARGAIN, by what it says and what the other one says. */
    private static int loss(int fast, int said, int otherSaid) {
        int speed = 40 + 20 * (said + otherSaid);
        int above = Math.max(0, speed - fast) / 10;
        int below = Math.max(0, fast - 20 - speed) / 10;
        int nearer = Math.abs(fast - 80) < Math.abs(fast - 40) ? 1 : 0;
        return above + below + (said == nearer ? 0 : 1);
    }

    public int reaches(int man) {
        return isHere(man) ? told.reach(man, now.here) : NONE;
    }

    public int slowest() {
        int slowest = NOT_SO;
        for (int man = 0; man < told.people; man++) {
            if (has(now.here, man) && (slowest < 0 || at(told.fast, man) < at(told.fast, slowest))) {
                slowest = man;
            }
        }
        return slowest;
    }

    public int pack(int beats) {
        if (beats < 1 || beats >= DAY) {
            return NONE;
        }
        int open = 0;
        for (int work = 0; work < told.works; work++) {
            if (at(now.left, work) > beats) {
                return NOT_SO;
            }
            if (!now.isDone(work)) {
                open |= 1 << work;
            }
        }
        for (int set = 1; set <= open; set++) {
            if ((set & ~open) == 0) {
                put(packed, set, fewestDays(set, beats));
            }
        }
        return at(packed, open) / DAY;
    }

    /** The fewest DAYS for a set of WORKS times DAY, and the least beats that fill the last one. */
    private int fewestDays(int set, int beats) {
        int best = Integer.MAX_VALUE;
        for (int work = 0; work < told.works; work++) {
            if (has(set, work)) {
                int before = at(packed, set & ~(1 << work));
                int left = at(now.left, work);
                boolean room = before > 0 && before % DAY + left <= beats;
                best = Math.min(best, room ? before + left : (before / DAY + 1) * DAY + left);
            }
        }
        return best;
    }

    public int canon(int one, int other) {
        if (!told.isWork(one) || !told.isWork(other) || one == other) {
            return NONE;
        }
        int bar = at(told.bars, one);
        int missing = Math.max(0, at(told.beats, one) - at(told.beats, other));
        return bar < 1 ? NONE : (missing + bar - 1) / bar * bar;
    }

    public int strange(int slips, int what) {
        if (slips < 0 || slips > 9999 || what < 0 || what > 1) {
            return NONE;
        }
        int beat = clock.plainBeat(now);
        int bits = 0;
        for (int man = 0; man < told.people; man++) {
            int kind = at(told.fast, man) < beat ? 0 : 1;
            if (has(now.here, man) && at(now.slips, man) >= slips && kind == what) {
                bits |= 1 << man;
            }
        }
        return bits;
    }

    public int firstSlip(int n, int what) {
        if (n < 1 || n > MOST_AHEAD || what < 0 || what > 1) {
            return NONE;
        }
        trial.copy(now);
        for (int k = 1; k <= n; k++) {
            clock.pass(trial, Clock.AS_IT_GOES);
            if (trial.slipped != 0) {
                return what == 0 ? k : Integer.numberOfTrailingZeros(trial.slipped);
            }
        }
        return NOT_SO;
    }

    public int goOn() {
        return clock.goingOn(now, clock.plainBeat(now));
    }

    public int startBy(int work, int n) {
        if (!told.isWork(work) || now.isDone(work) || n < 1 || n > MOST_GO) {
            return NONE;
        }
        int man = at(told.owners, work);
        trial.copy(now);
        for (int k = 0; k < n; k++) {
            put(gains, k, trial.isFree(man) ? clock.beatOf(trial, Clock.AS_IT_GOES) : 0);
            clock.pass(trial, Clock.AS_IT_GOES);
        }
        // what a WORK goes on by hangs neither on it nor on other WORKS, so the HOURS behind may be added up
        int left = at(now.left, work);
        for (int k = n - 1; k >= 0; k--) {
            left -= at(gains, k);
            if (left <= 0) {
                return k;
            }
        }
        return NOT_SO;
    }

    public int idle() {
        int bits = now.here;
        for (int work = 0; work < told.works; work++) {
            if (!now.isDone(work)) {
                bits &= ~(1 << at(told.owners, work));
            }
        }
        return bits;
    }

    public int see(int hours, int work, int beats, boolean atLeast) {
        if (!isWithin(hours, 1, Sights.MOST_HOURS) || !told.isWork(work) || !isWithin(beats, 0, 999)) {
            return NONE;
        }
        return sights.add(hours, work, beats, atLeast);
    }

    public int strike(int seen) {
        return sights.addStrike(seen);
    }

    public boolean known(int n) {
        if (n < -1 || n > sights.count) {
            return false;
        }
        sights.knownBy = n;
        return true;
    }

    public int shifts() {
        int standing = sights.standing();
        int last = sights.lastHour(standing);
        int bits = 0;
        for (int k = 0; k < SHIFTS_TRIED; k++) {
            if (isShiftedBy(3 * k, standing, last)) {
                bits |= 1 << k;
            }
        }
        return bits;
    }

    private boolean isShiftedBy(int much, int standing, int last) {
        trial.begin(told);
        trial.shift = much;
        for (int hour = 1; hour <= last; hour++) {
            clock.pass(trial, Clock.AS_IT_GOES);
            if (!sights.fit(trial, standing)) {
                return false;
            }
        }
        return true;
    }

    public int chance(int seed, int n, int work) {
        if (seed < 0 || n < 1 || n > MOST_GO || !told.isWork(work)) {
            return NONE;
        }
        int number = seed;
        int times = 0;
        for (int k = 0; k < TIMES_DRAWN; k++) {
            trial.copy(now);
            trial.number = number;
            tryHours(n, Clock.DRAWN);
            number = trial.number;
            if (trial.isDone(work)) {
                times++;
            }
        }
        return times;
    }

    public int tried(int what, int i, int n) {
        if (what < 0 || what > 4 || n < 0 || n > 99 || (what == 2 ? !told.isMan(i) : i != 0)) {
            return NONE;
        }
        trial.copy(now);
        switch (what) {
            case 1:
                fill(trial.hiccups, 0);
                break;
            case 2:
                trial.sendAway(i);
                break;
            case 3:
                trial.coil = MOST_COIL;
                break;
            case 4:
                trial.shift = 0;
                break;
            default:
                break;
        }
        tryHours(n, what == 0 ? Clock.NO_WASPS : Clock.AS_IT_GOES);
        return trial.allSlips() - now.allSlips();
    }

    public int undo() {
        return deeds.takeBack(now);
    }

    public int keep() {
        image.copy(now);
        imaged = true;
        return now.hour;
    }

    public int back() {
        if (!imaged) {
            return NONE;
        }
        now.copy(image);
        deeds.forget();
        return now.hour;
    }

    public int count(int what) {
        switch (what) {
            case 0:
                return told.people;
            case 1:
                return told.tieCount();
            case 2:
                return told.works;
            case 3:
                return told.knots;
            case 4:
                return now.hour;
            case 5:
                return now.coil;
            case 6:
                return now.shift;
            case 7:
                return now.doneCount(told.works);
            case 8:
                return now.allSlips();
            case 9:
                return now.hiccupping();
            case 10:
                return Integer.bitCount(now.here);
            case 11:
                return sights.count;
            case 12:
                return sights.knownCount();
            case 13:
                return deeds.count;
            default:
                return NONE;
        }
    }

    private boolean isHere(int man) {
        return told.isMan(man) && has(now.here, man);
    }

    private static boolean isWithin(int number, int least, int most) {
        return number >= least && number <= most;
    }

    private static boolean has(int bits, int i) {
        return (bits >> i & 1) == 1;
    }

    private static int gcd(int one, int other) {
        int a = one;
        int b = other;
        // Euclid's way takes some forty steps at most
        for (int k = 0; k < 100 && b != 0; k++) {
            int rest = a % b;
            a = b;
            b = rest;
        }
        return a;
    }

    /** Every row is read by this: an index that is none (NONE, too) reads 0. */
    private static int at(int[] row, int i) {
        return i >= 0 && i < row.length ? row[i] : 0;
    }

    private static void put(int[] row, int i, int value) {
        if (i >= 0 && i < row.length) {
            row[i] = value;
        }
    }

    private static void fill(int[] row, int value) {
        for (int i = 0; i < row.length; i++) {
            row[i] = value;
        }
    }

    private static void copyRow(int[] from, int[] to) {
        for (int i = 0; i < from.length && i < to.length; i++) {
            to[i] = from[i];
        }
    }

    private static int find(int[] names, int count, int name) {
        for (int i = 0; i < count; i++) {
            if (at(names, i) == name) {
                return i;
            }
        }
        return NONE;
    }

    /** What a TEXT tells. */
    private static final class Told {
        private int people;
        private final int[] manNames = new int[MOST_PEOPLE];
        private final int[] fast = new int[MOST_PEOPLE];
        private final int[] aged = new int[MOST_PEOPLE];
        private final int[] tied = new int[MOST_PEOPLE];
        private int works;
        private final int[] workNames = new int[MOST_WORKS];
        private final int[] owners = new int[MOST_WORKS];
        private final int[] beats = new int[MOST_WORKS];
        private final int[] bars = new int[MOST_WORKS];
        private final int[] begins = new int[MOST_WORKS];
        private int speedCount;
        private final int[] speeds = new int[MOST_SPEEDS];
        private int spring;
        private int wasp;
        private int seed;
        private int knots;
        private final int[] code = new int[MOST_KNOTS];
        private final int[] lawFrom = new int[LAWS];
        private final int[] lawTo = new int[LAWS];

        Told() {
            clear();
        }

        private void clear() {
            people = 0;
            fill(tied, 0);
            works = 0;
            speedCount = 0;
            spring = 200;
            wasp = 0;
            seed = 0;
            knots = 0;
            fill(lawFrom, 0);
            fill(lawTo, 0);
        }

        boolean isMan(int man) {
            return man >= 0 && man < people;
        }

        boolean isWork(int work) {
            return work >= 0 && work < works;
        }

        boolean areTied(int one, int other) {
            return has(at(tied, one), other);
        }

        void addTie(int one, int other) {
            put(tied, one, at(tied, one) | 1 << other);
            put(tied, other, at(tied, other) | 1 << one);
        }

        int tieCount() {
            int ends = 0;
            for (int man = 0; man < tied.length; man++) {
                ends += Integer.bitCount(tied[man]);
            }
            return ends / 2;
        }

        void addKnot(int knot) {
            put(code, knots, knot);
            knots++;
        }

        int worksOf(int man) {
            int bits = 0;
            for (int work = 0; work < works; work++) {
                if (at(owners, work) == man) {
                    bits |= 1 << work;
                }
            }
            return bits;
        }

        /** Who is reached from one by TIES among some (bits), that one, too. */
        int reach(int man, int among) {
            int reached = 1 << man;
            for (int round = 0; round < people; round++) {
                for (int one = 0; one < people; one++) {
                    if (has(reached, one)) {
                        reached |= at(tied, one) & among;
                    }
                }
            }
            return reached;
        }
    }

    /** What changes by HOURS and by calls. */
    private static final class State {
        private int hour;
        private int coil;
        private int shift;
        private int number;
        private int here;
        private final int[] slips = new int[MOST_PEOPLE];
        private final int[] hiccups = new int[MOST_PEOPLE];
        private final int[] left = new int[MOST_WORKS];
        private final int[] doneIn = new int[MOST_WORKS];
        // of the HOUR that went by last: WORKS that went on, PEOPLE whose SLIPS became more (bits)
        private int wentOn;
        private int slipped;

        void begin(Told told) {
            hour = 0;
            coil = told.spring;
            shift = 0;
            number = told.seed;
            here = (1 << told.people) - 1;
            fill(slips, 0);
            fill(hiccups, 0);
            fill(left, 0);
            fill(doneIn, NONE);
            for (int work = 0; work < told.works; work++) {
                put(left, work, at(told.beats, work));
            }
            wentOn = 0;
            slipped = 0;
        }

        void copy(State from) {
            hour = from.hour;
            coil = from.coil;
            shift = from.shift;
            number = from.number;
            here = from.here;
            copyRow(from.slips, slips);
            copyRow(from.hiccups, hiccups);
            copyRow(from.left, left);
            copyRow(from.doneIn, doneIn);
            wentOn = from.wentOn;
            slipped = from.slipped;
        }

        boolean isDone(int work) {
            return at(left, work) == 0;
        }

        /** Whether one is HERE and has no HICCUPS. */
        boolean isFree(int man) {
            return has(here, man) && at(hiccups, man) == 0;
        }

        void sendAway(int man) {
            here &= ~(1 << man);
            put(hiccups, man, 0);
        }

        int doneBits(int works) {
            int bits = 0;
            for (int work = 0; work < works; work++) {
                if (isDone(work)) {
                    bits |= 1 << work;
                }
            }
            return bits;
        }

        int doneCount(int works) {
            return Integer.bitCount(doneBits(works));
        }

        int allSlips() {
            int sum = 0;
            for (int man = 0; man < slips.length; man++) {
                sum += slips[man];
            }
            return sum;
        }

        int hiccupping() {
            int many = 0;
            for (int man = 0; man < hiccups.length; man++) {
                if (hiccups[man] > 0) {
                    many++;
                }
            }
            return many;
        }
    }

    /** Lets HOURS go by. */
    private static final class Clock {
        private static final int DRAWN = 0;
        private static final int AS_IT_GOES = 1;
        private static final int NO_WASPS = 2;

        private Told told;
        // a SPEED in place of all told ones, 0 for none
        private int instead = 0;
        private final Reckoner reckoner = new Reckoner();
        private final int[] had = new int[MOST_PEOPLE];

        Clock(Told told) {
            this.told = told;
        }

        void turnTo(Told other) {
            told = other;
        }

        private int speedOf(int hour) {
            if (instead > 0) {
                return instead;
            }
            return told.speedCount < 1 || hour < 0 ? 60 : at(told.speeds, hour % told.speedCount);
        }

        /** BEAT without WASPS. */
        int plainBeat(State state) {
            if (state.coil == 0) {
                return 0;
            }
            return Math.max(1, Math.min(MOST_BEAT, speedOf(state.hour) + state.shift));
        }

        /** BEAT of this HOUR; the number that it takes, if any, is the last one then. */
        int beatOf(State state, int way) {
            int beat = plainBeat(state);
            if (beat > 0 && isWaspIn(state, way)) {
                return Math.min(MOST_BEAT, 2 * beat);
            }
            return beat;
        }

        private boolean isWaspIn(State state, int way) {
            if (way == NO_WASPS || told.wasp == 0) {
                return false;
            }
            if (way == AS_IT_GOES) {
                return told.wasp >= 50;
            }
            if (told.wasp == 100) {
                return true;
            }
            state.number = (int) (state.number * 1103515245L + 12345L & 0x7fffffffL);
            return state.number / 65536 % 100 < told.wasp;
        }

        void pass(State state, int way) {
            int beat = beatOf(state, way);
            state.wentOn = goingOn(state, beat);
            state.slipped = 0;
            for (int work = 0; work < told.works; work++) {
                if (has(state.wentOn, work)) {
                    goOnWith(state, beat, work);
                }
            }
            spread(state, beat);
            name(state, beat, NONE, NONE);
            state.coil = Math.max(0, state.coil - lawWithin(WEAR_LAW, 0, 99, 1));
            state.hour++;
        }

        /** WORKS (bits) that go on in this HOUR. */
        int goingOn(State state, int beat) {
            int bits = 0;
            for (int work = 0; work < told.works && beat > 0; work++) {
                boolean begun = at(told.begins, work) <= state.hour;
                if (begun && !state.isDone(work) && state.isFree(at(told.owners, work))) {
                    bits |= 1 << work;
                }
            }
            return bits;
        }

        private void goOnWith(State state, int beat, int work) {
            int man = at(told.owners, work);
            name(state, beat, man, work);
            int slips = lawWithin(SLIP_LAW, 0, 99, Math.max(0, beat - at(told.fast, man)) / 10);
            put(state.slips, man, at(state.slips, man) + slips);
            if (slips > 0) {
                state.slipped |= 1 << man;
            }
            put(state.left, work, Math.max(0, at(state.left, work) - beat));
            if (state.isDone(work)) {
                put(state.doneIn, work, state.hour);
            }
        }

        private void spread(State state, int beat) {
            copyRow(state.hiccups, had);
            int giving = 0;
            for (int man = 0; man < told.people; man++) {
                if (at(had, man) > 0) {
                    giving |= at(told.tied, man);
                }
            }
            for (int man = 0; man < told.people; man++) {
                if (at(had, man) > 0) {
                    put(state.hiccups, man, at(had, man) - 1);
                } else if (has(giving & state.here, man)) {
                    name(state, beat, man, NONE);
                    put(state.hiccups, man, lawWithin(HUSH_LAW, 1, 9, 1 + at(told.aged, man) / 20));
                }
            }
        }

        /** Gives the NAMES of an E their VALUES; no man, no work (NONE) make 0. */
        void name(State state, int beat, int man, int work) {
            reckoner.set(Reckoner.BEAT, beat);
            reckoner.set(Reckoner.FAST, at(told.fast, man));
            reckoner.set(Reckoner.AGED, at(told.aged, man));
            reckoner.set(Reckoner.LEFT, at(state.left, work));
            reckoner.set(Reckoner.BAR, at(told.bars, work));
            reckoner.set(Reckoner.COIL, state.coil);
            reckoner.set(Reckoner.HOUR, state.hour);
        }

        private int lawWithin(int law, int least, int most, int without) {
            long value = reckoner.value(told, law);
            if (value == Reckoner.ERROR) {
                return without;
            }
            return (int) Math.max(least, Math.min(most, value));
        }
    }

    /** Works out an E, whose KNOTS stand in a row with each sign behind what it joins. */
    private static final class Reckoner {
        private static final long ERROR = Long.MIN_VALUE;
        private static final long MOST = 1000000000000L;
        private static final int BEAT = 0;
        private static final int FAST = 1;
        private static final int AGED = 2;
        private static final int LEFT = 3;
        private static final int BAR = 4;
        private static final int COIL = 5;
        private static final int HOUR = 6;
        // a KNOT below FIRST_NAME is an N, one below FIRST_SIGN a NAME, another a sign
        private static final int FIRST_NAME = 10000;
        private static final int FIRST_SIGN = 20000;

        private final long[] names = new long[7];
        private final long[] stack = new long[MOST_KNOTS];
        private int height = 0;
        private boolean wrong = false;

        void set(int name, long value) {
            if (name >= 0 && name < names.length) {
                names[name] = value;
            }
        }

        /** A law's E; ERROR for one that isn't told, too (it has no KNOTS). */
        long value(Told told, int law) {
            height = 0;
            wrong = false;
            int to = at(told.lawTo, law);
            for (int i = at(told.lawFrom, law); i < to && !wrong; i++) {
                int knot = at(told.code, i);
                if (knot < FIRST_NAME) {
                    push(knot);
                } else if (knot < FIRST_SIGN) {
                    push(nameValue(knot - FIRST_NAME));
                } else {
                    join(knot - FIRST_SIGN);
                }
            }
            long value = pop();
            return wrong ? ERROR : value;
        }

        private void push(long value) {
            if (height < 0 || height >= stack.length || value > MOST || value < -MOST) {
                wrong = true;
                return;
            }
            stack[height] = value;
            height++;
        }

        private long nameValue(int name) {
            return name >= 0 && name < names.length ? names[name] : 0;
        }

        private long pop() {
            if (height < 1 || height > stack.length) {
                wrong = true;
                return 0;
            }
            height--;
            return stack[height];
        }

        private void join(int sign) {
            long b = pop();
            if (sign == Tokens.NOT) {
                push(b == 0 ? 1 : 0);
                return;
            }
            long a = pop();
            switch (sign) {
                case Tokens.PLUS:
                    push(a + b);
                    break;
                case Tokens.MINUS:
                    push(a - b);
                    break;
                case Tokens.TIMES:
                    // asked ahead of it, since what is beyond MOST may be beyond a long, too
                    wrong = wrong || b != 0 && Math.abs(a) > MOST / Math.abs(b);
                    push(wrong ? 0 : a * b);
                    break;
                case Tokens.BY:
                    wrong = wrong || b == 0;
                    push(b == 0 ? 0 : a / b);
                    break;
                default:
                    push(holds(sign, a, b) ? 1 : 0);
                    break;
            }
        }

        private static boolean holds(int sign, long a, long b) {
            switch (sign) {
                case Tokens.OR:
                    return a != 0 || b != 0;
                case Tokens.AND:
                    return a != 0 && b != 0;
                case Tokens.LESS:
                    return a < b;
                case Tokens.LESS_OR_LIKE:
                    return a <= b;
                case Tokens.LIKE:
                    return a == b;
                case Tokens.UNLIKE:
                    return a != b;
                case Tokens.MORE_OR_LIKE:
                    return a >= b;
                default:
                    return a > b;
            }
        }
    }

    /** Cuts a TEXT into TOKENS: of the one that is read its kind, its place, its number or letters. */
    private static final class Tokens {
        // the place of a word here is its kind; the NAMES stand as in Reckoner
        private static final String LANGUAGE =
            "man tie work speed spring wasp seed law slip wear hush not and or beat fast aged left bar coil hour ";
        private static final int MAN = 0;
        private static final int TIE = 1;
        private static final int WORK = 2;
        private static final int SPEED = 3;
        private static final int SPRING = 4;
        private static final int WASP = 5;
        private static final int SEED = 6;
        private static final int LAW = 7;
        private static final int SLIP = 8;
        private static final int NOT = 11;
        private static final int AND = 12;
        private static final int OR = 13;
        private static final int BEAT = 14;
        private static final int HOUR = 20;
        private static final int WORDS = 21;
        private static final int NAME = 21;
        private static final int NUMBER = 22;
        private static final int END = 23;
        private static final int BAD = 24;
        private static final int SEMICOLON = 25;
        private static final int OPEN = 26;
        private static final int CLOSE = 27;
        private static final int LESS = 28;
        private static final int LESS_OR_LIKE = 29;
        private static final int LIKE = 30;
        private static final int UNLIKE = 31;
        private static final int MORE_OR_LIKE = 32;
        private static final int MORE = 33;
        private static final int PLUS = 34;
        private static final int MINUS = 35;
        private static final int TIMES = 36;
        private static final int BY = 37;
        // above every number that the language allows
        private static final int MUCH = 1000000;

        private final int[] words = new int[WORDS];
        private final int[] kinds = new int[MOST_TAPE + 1];
        private final int[] places = new int[MOST_TAPE + 1];
        private final int[] values = new int[MOST_TAPE + 1];
        private int count = 0;
        private int turn = 0;
        private int kind = END;
        private int place = 0;
        private int value = 0;

        Tokens() {
            int word = 0;
            int letters = 0;
            int code = 0;
            for (int i = 0; i < LANGUAGE.length(); i++) {
                char sign = LANGUAGE.charAt(i);
                if (sign == ' ') {
                    put(words, word, code);
                    word++;
                    letters = 0;
                    code = 0;
                } else {
                    code |= letter(sign, letters);
                    letters++;
                }
            }
        }

        /** A letter's bits as those of one that stands behind so many others in its word. */
        private static int letter(int sign, int behind) {
            return behind < 6 ? sign - 'a' + 1 << 25 - 5 * behind : 0;
        }

        /** Splits the first n bytes; the first TOKEN is read then. */
        void split(int[] tape, int n) {
            count = 0;
            int next = 0;
            for (int k = 0; k < n && next < n; k++) {
                int sign = at(tape, next);
                if (isLetter(sign)) {
                    next = cutWord(tape, next, n);
                } else if (isDigit(sign)) {
                    next = cutNumber(tape, next, n);
                } else if (sign == ' ' || sign == 10) {
                    next++;
                } else {
                    next = cutSign(sign, next + 1 < n ? at(tape, next + 1) : 0, next);
                }
            }
            add(END, n, 0);
            turn = -1;
            step();
        }

        /** Reads the next TOKEN; behind the last one that is END again. */
        void step() {
            turn = Math.min(turn + 1, count - 1);
            kind = at(kinds, turn);
            place = at(places, turn);
            value = at(values, turn);
        }

        private void add(int ofKind, int from, int worth) {
            put(kinds, count, ofKind);
            put(places, count, from);
            put(values, count, worth);
            count++;
        }

        private static boolean isLetter(int sign) {
            return sign >= 'a' && sign <= 'z';
        }

        private static boolean isDigit(int sign) {
            return sign >= '0' && sign <= '9';
        }

        /** Where the word ends that begins there. */
        private int cutWord(int[] tape, int from, int n) {
            int code = 0;
            int next = from;
            while (next < n && isLetter(at(tape, next))) {
                code |= letter(at(tape, next), next - from);
                next++;
            }
            int word = find(words, WORDS, code);
            add(next - from > 6 ? BAD : word == NONE ? NAME : word, from, code);
            return next;
        }

        private int cutNumber(int[] tape, int from, int n) {
            int number = 0;
            int next = from;
            while (next < n && isDigit(at(tape, next))) {
                number = Math.min(MUCH, number * 10 + at(tape, next) - '0');
                next++;
            }
            add(NUMBER, from, number);
            return next;
        }

        private int cutSign(int sign, int behind, int from) {
            int ofKind = signKind(sign, behind);
            add(ofKind, from, 0);
            return from + (ofKind == LESS_OR_LIKE || ofKind == UNLIKE || ofKind == MORE_OR_LIKE ? 2 : 1);
        }

        private static int signKind(int sign, int behind) {
            switch (sign) {
                case ';':
                    return SEMICOLON;
                case '(':
                    return OPEN;
                case ')':
                    return CLOSE;
                case '<':
                    return behind == '=' ? LESS_OR_LIKE : behind == '>' ? UNLIKE : LESS;
                case '=':
                    return LIKE;
                case '>':
                    return behind == '=' ? MORE_OR_LIKE : MORE;
                case '+':
                    return PLUS;
                case '-':
                    return MINUS;
                case '*':
                    return TIMES;
                case '/':
                    return BY;
                default:
                    return BAD;
            }
        }
    }

    /** Reads a TEXT, or finds its first FAULT. */
    private static final class Reader {
        private static final int WRONG_TOKEN = 1;
        private static final int TOO_MUCH = 2;
        private static final int TOLD_ALREADY = 3;
        private static final int NO_PERSON = 4;
        private static final int WITH_ONESELF = 5;

        private final Tokens tokens = new Tokens();
        private Told into;
        // kinds (bits) of what may be told but once, and was
        private int once = 0;
        private int knots = 0;
        private int fault = 0;
        private int faultPlace = NONE;

        Reader(Told into) {
            this.into = into;
        }

        /** How many LINES; NONE with a FAULT. */
        int read(int[] tape, int n, Told draft) {
            into = draft;
            into.clear();
            once = 0;
            knots = 0;
            fault = 0;
            faultPlace = NONE;
            tokens.split(tape, n);
            int lines = 0;
            while (lines <= n && fault == 0 && tokens.kind != Tokens.END) {
                readLine();
                lines++;
            }
            return fault == 0 ? lines : NONE;
        }

        private void refuse(int what) {
            if (fault == 0) {
                fault = what;
                faultPlace = tokens.place;
            }
        }

        private boolean sees(int kind) {
            return fault == 0 && tokens.kind == kind;
        }

        private void take(int kind) {
            if (sees(kind)) {
                tokens.step();
            } else {
                refuse(WRONG_TOKEN);
            }
        }

        private void readLine() {
            switch (tokens.kind) {
                case Tokens.MAN:
                    readMan();
                    break;
                case Tokens.TIE:
                    readTie();
                    break;
                case Tokens.WORK:
                    readWork();
                    break;
                case Tokens.SPEED:
                    readSpeed();
                    break;
                case Tokens.SPRING:
                    into.spring = readOnce(MOST_COIL);
                    break;
                case Tokens.WASP:
                    into.wasp = readOnce(100);
                    break;
                case Tokens.SEED:
                    into.seed = readOnce(99999);
                    break;
                case Tokens.LAW:
                    readLaw();
                    break;
                default:
                    refuse(WRONG_TOKEN);
                    break;
            }
            take(Tokens.SEMICOLON);
        }

        /** Takes the word of a LINE of which there are so many already. */
        private void takeUnless(int many, int most) {
            if (many >= most) {
                refuse(TOO_MUCH);
            } else {
                tokens.step();
            }
        }

        private void readMan() {
            takeUnless(into.people, MOST_PEOPLE);
            int name = readNewName(into.manNames, into.people);
            int fast = readNumber(1, 199);
            int aged = readNumber(0, 99);
            if (fault == 0) {
                put(into.manNames, into.people, name);
                put(into.fast, into.people, fast);
                put(into.aged, into.people, aged);
                into.people++;
            }
        }

        private void readTie() {
            takeUnless(into.tieCount(), MOST_TIES);
            int one = findPerson();
            take(Tokens.NAME);
            int other = findPerson();
            if (fault == 0 && into.areTied(one, other)) {
                refuse(TOLD_ALREADY);
            }
            if (fault == 0 && one == other) {
                refuse(WITH_ONESELF);
            }
            take(Tokens.NAME);
            if (fault == 0) {
                into.addTie(one, other);
            }
        }

        private void readWork() {
            takeUnless(into.works, MOST_WORKS);
            int name = readNewName(into.workNames, into.works);
            int owner = findPerson();
            take(Tokens.NAME);
            int beats = readNumber(1, 999);
            int bar = readNumber(1, 12);
            int begin = readNumber(0, 99);
            if (fault == 0) {
                put(into.workNames, into.works, name);
                put(into.owners, into.works, owner);
                put(into.beats, into.works, beats);
                put(into.bars, into.works, bar);
                put(into.begins, into.works, begin);
                into.works++;
            }
        }

        private void readSpeed() {
            takeUnless(into.speedCount, MOST_SPEEDS);
            int speed = readNumber(1, 199);
            if (fault == 0) {
                put(into.speeds, into.speedCount, speed);
                into.speedCount++;
            }
        }

        private int readOnce(int most) {
            takeOnce();
            return readNumber(0, most);
        }

        private void takeOnce() {
            if (has(once, tokens.kind)) {
                refuse(TOLD_ALREADY);
            } else {
                once |= 1 << tokens.kind;
                tokens.step();
            }
        }

        private void readLaw() {
            tokens.step();
            int law = tokens.kind - Tokens.SLIP;
            if (law < 0 || law >= LAWS) {
                refuse(WRONG_TOKEN);
                return;
            }
            takeOnce();
            put(into.lawFrom, law, into.knots);
            readEither(0);
            put(into.lawTo, law, into.knots);
        }

        private int readNumber(int least, int most) {
            int number = tokens.value;
            if (sees(Tokens.NUMBER) && !isWithin(number, least, most)) {
                refuse(TOO_MUCH);
            }
            take(Tokens.NUMBER);
            return number;
        }

        private int readNewName(int[] names, int count) {
            int name = tokens.value;
            if (sees(Tokens.NAME) && find(names, count, name) != NONE) {
                refuse(TOLD_ALREADY);
            }
            take(Tokens.NAME);
            return name;
        }

        /** The PERSON whose name is to be taken next. */
        private int findPerson() {
            int man = find(into.manNames, into.people, tokens.value);
            if (sees(Tokens.NAME) && man == NONE) {
                refuse(NO_PERSON);
            }
            if (!sees(Tokens.NAME)) {
                refuse(WRONG_TOKEN);
            }
            return man;
        }

        /** Takes a TOKEN that is a KNOT. */
        private void takeKnot() {
            if (knots >= MOST_KNOTS) {
                refuse(TOO_MUCH);
            }
            if (fault == 0) {
                knots++;
                tokens.step();
            }
        }

        private void add(int knot) {
            if (fault == 0) {
                into.addKnot(knot);
            }
        }

        /** An E, so many '(' being open; so do all that follow. */
        private void readEither(int open) {
            readBoth(open);
            for (int k = 0; k <= MOST_KNOTS && sees(Tokens.OR); k++) {
                takeKnot();
                readBoth(open);
                add(Reckoner.FIRST_SIGN + Tokens.OR);
            }
        }

        private void readBoth(int open) {
            readNot(open);
            for (int k = 0; k <= MOST_KNOTS && sees(Tokens.AND); k++) {
                takeKnot();
                readNot(open);
                add(Reckoner.FIRST_SIGN + Tokens.AND);
            }
        }

        private void readNot(int open) {
            int nots = 0;
            while (nots <= MOST_KNOTS && sees(Tokens.NOT)) {
                takeKnot();
                nots++;
            }
            readComparison(open);
            for (int k = 0; k < nots; k++) {
                add(Reckoner.FIRST_SIGN + Tokens.NOT);
            }
        }

        private void readComparison(int open) {
            readSum(open);
            int sign = tokens.kind;
            if (fault == 0 && sign >= Tokens.LESS && sign <= Tokens.MORE) {
                takeKnot();
                readSum(open);
                add(Reckoner.FIRST_SIGN + sign);
            }
        }

        private void readSum(int open) {
            readProduct(open);
            for (int k = 0; k <= MOST_KNOTS && (sees(Tokens.PLUS) || sees(Tokens.MINUS)); k++) {
                int sign = tokens.kind;
                takeKnot();
                readProduct(open);
                add(Reckoner.FIRST_SIGN + sign);
            }
        }

        private void readProduct(int open) {
            readPart(open);
            for (int k = 0; k <= MOST_KNOTS && (sees(Tokens.TIMES) || sees(Tokens.BY)); k++) {
                int sign = tokens.kind;
                takeKnot();
                readPart(open);
                add(Reckoner.FIRST_SIGN + sign);
            }
        }

        private void readPart(int open) {
            int kind = tokens.kind;
            int number = tokens.value;
            if (sees(Tokens.OPEN)) {
                readGroup(open + 1);
            } else if (sees(Tokens.NUMBER)) {
                if (number > 9999) {
                    refuse(TOO_MUCH);
                }
                takeKnot();
                add(number);
            } else if (kind >= Tokens.BEAT && kind <= Tokens.HOUR) {
                takeKnot();
                add(Reckoner.FIRST_NAME + kind - Tokens.BEAT);
            } else {
                refuse(WRONG_TOKEN);
            }
        }

        private void readGroup(int open) {
            if (open > MOST_OPEN) {
                refuse(TOO_MUCH);
                return;
            }
            tokens.step();
            readEither(open);
            take(Tokens.CLOSE);
        }
    }

    /** What was done by call and can be undone. */
    private static final class Deeds {
        private static final int MOST = 20;
        private static final int SHIFTED = 0;
        private static final int WOUND = 1;
        private static final int HICCUPPED = 2;
        private static final int WENT = 3;
        private static final int CAME = 4;

        private int count = 0;
        private final int[] kinds = new int[MOST];
        private final int[] men = new int[MOST];
        private final int[] before = new int[MOST];

        void forget() {
            count = 0;
        }

        /** What was before: SHIFT, COIL or the HICCUPS of the man. */
        void add(int kind, int man, int was) {
            if (count >= MOST) {
                dropOldest();
            }
            put(kinds, count, kind);
            put(men, count, man);
            put(before, count, was);
            count++;
        }

        private void dropOldest() {
            for (int i = 1; i < count; i++) {
                put(kinds, i - 1, at(kinds, i));
                put(men, i - 1, at(men, i));
                put(before, i - 1, at(before, i));
            }
            count--;
        }

        /** How many are left; NONE if there was none. */
        int takeBack(State state) {
            if (count < 1) {
                return NONE;
            }
            count--;
            int man = at(men, count);
            int was = at(before, count);
            switch (at(kinds, count)) {
                case SHIFTED:
                    state.shift = was;
                    break;
                case WOUND:
                    state.coil = was;
                    break;
                case HICCUPPED:
                    put(state.hiccups, man, was);
                    break;
                case WENT:
                    state.here |= 1 << man;
                    put(state.hiccups, man, was);
                    break;
                default:
                    state.sendAway(man);
                    break;
            }
            return count;
        }
    }

    /** What was SEEN, STRIKES among it. */
    private static final class Sights {
        private static final int MOST = 24;
        private static final int MOST_HOURS = 40;

        private int count = 0;
        private int knownBy = NONE;
        // NONE of what is no STRIKE
        private final int[] strikes = new int[MOST];
        private final int[] hours = new int[MOST];
        private final int[] works = new int[MOST];
        private final int[] beats = new int[MOST];
        // those (bits) with at least so many beats; the others with fewer
        private int atLeasts = 0;

        void forget() {
            count = 0;
            knownBy = NONE;
            atLeasts = 0;
        }

        int knownCount() {
            return knownBy == NONE ? count : knownBy;
        }

        int add(int hour, int work, int beat, boolean atLeast) {
            if (count >= MOST) {
                return NONE;
            }
            put(strikes, count, NONE);
            put(hours, count, hour);
            put(works, count, work);
            put(beats, count, beat);
            if (atLeast) {
                atLeasts |= 1 << count;
            }
            count++;
            return count - 1;
        }

        int addStrike(int seen) {
            if (seen < 0 || seen >= count || count >= MOST) {
                return NONE;
            }
            put(strikes, count, seen);
            count++;
            return count - 1;
        }

        /** The KNOWN ones (bits) that are neither STRUCK nor STRIKES. */
        int standing() {
            int struck = 0;
            int bits = 0;
            for (int i = knownCount() - 1; i >= 0; i--) {
                if (!has(struck, i)) {
                    int strike = at(strikes, i);
                    if (strike == NONE) {
                        bits |= 1 << i;
                    } else {
                        struck |= 1 << strike;
                    }
                }
            }
            return bits;
        }

        /** The last HOUR of some (bits); 0 of none. */
        int lastHour(int some) {
            int last = 0;
            for (int i = 0; i < count; i++) {
                if (has(some, i)) {
                    last = Math.max(last, at(hours, i));
                }
            }
            return last;
        }

        /** Whether those of some (bits) that were SEEN at the HOUR of a state are so in it. */
        boolean fit(State state, int some) {
            for (int i = 0; i < count; i++) {
                if (has(some, i) && at(hours, i) == state.hour) {
                    boolean enough = at(state.left, at(works, i)) >= at(beats, i);
                    if (enough != has(atLeasts, i)) {
                        return false;
                    }
                }
            }
            return true;
        }
    }
}
