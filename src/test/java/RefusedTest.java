import java.util.ArrayList;
import java.util.List;

/** A call that is refused, or that only asks, changes nothing else: two parishes alike, one of which has the call. */
final class RefusedTest {
    private static final String TEXT = "man a 40 50;man b 30 90;man c 10 0;tie a b;tie b c;work p a 500 5 0;work q b 400 7 1;"
        + "work r c 30 1 0;work s c 90 2 3;speed 40;speed 50;spring 300;wasp 40;seed 11;law slip beat / 9 + (left > 400);"
        + "law wear 2;law hush 3;";
    private static final int MIN = Integer.MIN_VALUE;
    private static final int MAX = Integer.MAX_VALUE;

    /** A call, and what it must answer. */
    private interface Call {
        long on(BeatParish x);
    }

    private final String name;
    private final List<Call> calls = new ArrayList<>();
    private final long answer;

    private RefusedTest(String name, long answer) {
        this.name = name;
        this.answer = answer;
    }

    public static void main(String[] args) {
        changesRefused();
        hoursRefused();
        textRefused();
        seenRefused();
        asksRefused();
        asks();
        Check.end();
    }

    private static long bit(boolean is) {
        return is ? 1 : 0;
    }

    private RefusedTest call(Call call) {
        calls.add(call);
        return this;
    }

    /** Each call by itself, then all one behind another. */
    private void hold() {
        long[] due = portrait(lived());
        for (int k = 0; k < calls.size(); k++) {
            BeatParish x = lived();
            Check.due(name + ", call " + k, calls.get(k).on(x), answer);
            same(name + ", behind call " + k, portrait(x), due);
        }
        BeatParish x = lived();
        for (Call call : calls) {
            call.on(x);
        }
        same(name + ", behind all", portrait(x), due);
    }

    private static void same(String what, long[] got, long[] due) {
        boolean alike = got.length == due.length;
        for (int i = 0; i < due.length && alike; i++) {
            alike = got[i] == due[i];
        }
        Check.due(what + " all is as without", alike, true);
    }

    /** HICCUPS, one at the aunt's, an IMAGE, something SEEN, KNOWN by some, a FAULT, a TAPE, deeds to undo. */
    private static BeatParish lived() {
        BeatParish x = Check.parish(TEXT);
        Check.tell(x, "man b 1 1;?");
        x.shift(3);
        x.go(2);
        x.keep();
        x.go(1);
        x.see(2, 0, 400, false);
        x.see(1, 1, 400, true);
        x.strike(0);
        x.see(3, 0, 380, true);
        x.known(3);
        x.shift(-5);
        x.wind(50);
        x.hiccup(1, 4);
        x.aunt(0, true);
        Check.feed(x, "speed 7;speed 8;");
        return x;
    }

    /** Whatever can be asked of a parish, and what becomes of it; within the calls for which an object is used. */
    private static long[] portrait(BeatParish x) {
        List<Long> all = new ArrayList<>();
        face(x, all);
        x.known(-1);
        all.add((long) x.shifts());
        int left = x.count(13);
        for (int k = 0; k <= left; k++) {
            all.add((long) x.undo());
            brief(x, all);
        }
        for (int k = 1; k < 4; k++) {
            all.add((long) x.go(k));
            brief(x, all);
        }
        all.add((long) x.back());
        brief(x, all);
        all.add((long) x.go(9));
        brief(x, all);
        int fed = Check.feed(x, "speed 9;");
        all.add((long) fed);
        all.add((long) x.text(fed));
        all.add((long) x.fault(0));
        all.add((long) x.fault(1));
        all.add((long) x.beat());
        long[] row = new long[all.size()];
        for (int i = 0; i < row.length; i++) {
            row[i] = all.get(i);
        }
        return row;
    }

    /** What calls and HOURS change. */
    private static void brief(BeatParish x, List<Long> all) {
        for (int what = 4; what < 14; what++) {
            all.add((long) x.count(what));
        }
        for (int one = 0; one < 3; one++) {
            all.add((long) Check.man(x, one, 2));
            all.add((long) Check.man(x, one, 3));
            all.add((long) Check.man(x, one, 4));
            all.add((long) x.work(one, 4));
            all.add((long) x.work(one, 5));
        }
    }

    private static void face(BeatParish x, List<Long> all) {
        for (int what = 0; what < 14; what++) {
            all.add((long) x.count(what));
        }
        for (int one = 0; one < 4; one++) {
            for (int what = 0; what < 6; what++) {
                all.add((long) Check.man(x, one, what));
                all.add((long) x.work(one, what));
            }
            all.add(x.law(0, one));
            all.add((long) x.tie(one, 1));
            all.add((long) x.reaches(one));
            all.add((long) x.done(one));
            all.add((long) x.named(0, one + 1 << 25));
            all.add((long) x.named(1, one + 16 << 25));
        }
        all.add(x.law(1, 0));
        all.add(x.law(2, 0));
        all.add((long) x.fault(0));
        all.add((long) x.fault(1));
        all.add((long) x.beat());
        all.add((long) x.stops());
        all.add((long) x.goOn());
        all.add((long) x.idle());
        all.add((long) x.slowest());
        all.add((long) x.shifts());
        all.add((long) x.bars(15));
        all.add((long) x.pack(500));
        all.add((long) x.chance(99, 9, 1));
        all.add((long) x.pace(3, 0));
    }

    private static void changesRefused() {
        RefusedTest shift = new RefusedTest("P11 shift", 0);
        shift.call(x -> bit(x.shift(-5))).call(x -> bit(x.shift(100))).call(x -> bit(x.shift(-100)));
        shift.call(x -> bit(x.shift(MAX))).call(x -> bit(x.shift(MIN))).hold();
        RefusedTest wind = new RefusedTest("P12 wind", -1);
        wind.call(x -> x.wind(0)).call(x -> x.wind(-1)).call(x -> x.wind(1000)).call(x -> x.wind(999 - x.count(5) + 1));
        wind.call(x -> x.wind(MAX)).call(x -> x.wind(MIN)).hold();
        RefusedTest hiccup = new RefusedTest("P13 hiccup", 0);
        hiccup.call(x -> bit(x.hiccup(1, 4))).call(x -> bit(x.hiccup(2, 0))).call(x -> bit(x.hiccup(0, 5)));
        hiccup.call(x -> bit(x.hiccup(0, 0))).call(x -> bit(x.hiccup(1, 10))).call(x -> bit(x.hiccup(1, -1)));
        hiccup.call(x -> bit(x.hiccup(3, 1))).call(x -> bit(x.hiccup(-1, 1))).call(x -> bit(x.hiccup(MAX, 1)));
        hiccup.call(x -> bit(x.hiccup(MIN, MIN))).hold();
        RefusedTest aunt = new RefusedTest("P14 aunt", 0);
        aunt.call(x -> bit(x.aunt(0, true))).call(x -> bit(x.aunt(1, false))).call(x -> bit(x.aunt(2, false)));
        aunt.call(x -> bit(x.aunt(3, true))).call(x -> bit(x.aunt(3, false))).call(x -> bit(x.aunt(-1, true)));
        aunt.call(x -> bit(x.aunt(MAX, true))).call(x -> bit(x.aunt(MIN, false))).hold();
    }

    private static void hoursRefused() {
        new RefusedTest("P15 go", -1).call(x -> x.go(-1)).call(x -> x.go(100)).call(x -> x.go(MAX)).call(x -> x.go(MIN)).hold();
        new RefusedTest("P15 go(0)", 3).call(x -> x.go(0)).hold();
        // 9900: no HOUR goes by any more
        BeatParish x = Check.parish(TEXT);
        for (int k = 0; k < 100; k++) {
            x.go(99);
        }
        x.wind(100);
        x.shift(5);
        for (int n = 1; n <= 99; n++) {
            Check.due("P15 behind 9900", x.go(n), -1);
        }
        Check.due("P15 it is 9900 still", x.count(4), 9900);
        Check.due("P15 COIL stays at 9900", x.count(5), 100);
        Check.due("P42 what can be undone stays at 9900", x.count(13), 2);
        // nothing was done, no IMAGE
        BeatParish y = Check.parish(TEXT);
        for (int k = 0; k < 3; k++) {
            Check.due("P42 undo of nothing", y.undo(), -1);
            Check.due("P44 back to nothing", y.back(), -1);
        }
        same("P42 and P44 behind nothing", portrait(y), portrait(Check.parish(TEXT)));
    }

    private static void textRefused() {
        RefusedTest text = new RefusedTest("P3 text", -2);
        text.call(x -> x.text(-1)).call(x -> x.text(21)).call(x -> x.text(700)).call(x -> x.text(MAX)).call(x -> x.text(MIN)).hold();
        // with a FAULT only the TAPE and the FAULT are other ones: here they are made alike again
        String[] texts = {"?", "man z 1 1;tie z y;", "spring 9;spring 9;", TEXT + "law", TEXT + TEXT, "man", "law slip ((((((((("};
        long[] due = portrait(lived());
        for (String one : texts) {
            BeatParish x = lived();
            Check.feed(x, one);
            Check.due("P3 text " + one, x.text(Math.min(700, 20 + one.length())), -1);
            Check.tell(x, "man b 1 1;?");
            Check.feed(x, "speed 7;speed 8;");
            same("P3 behind text " + one, portrait(x), due);
        }
        BeatParish x = lived();
        fill(x);
        BeatParish y = lived();
        fill(y);
        for (int k = 0; k < 9; k++) {
            Check.due("P2 feed beyond 700", x.feed(0x3f3f3f3f, 0x3f3f3f3f, 0x3f3f3f3f, 0x3f3f3f3f, 0x3f3f3f3f), -1);
        }
        Check.due("P2 no 701", x.text(701), -2);
        Check.due("P3 all 700 bytes", x.text(700), y.text(700));
        same("P2 behind feed", portrait(x), portrait(y));
    }

    /** The TAPE has 20 bytes already. */
    private static void fill(BeatParish x) {
        for (int has = 40; has <= 700; has += 20) {
            Check.due("P2 up to " + has, Check.feed(x, "speed 9;"), has);
        }
    }

    private static void seenRefused() {
        RefusedTest see = new RefusedTest("P36 see", -1);
        see.call(x -> x.see(0, 0, 5, true)).call(x -> x.see(41, 0, 5, true)).call(x -> x.see(5, 4, 5, true));
        see.call(x -> x.see(5, -1, 5, true)).call(x -> x.see(5, 0, -1, true)).call(x -> x.see(5, 0, 1000, false));
        see.call(x -> x.see(MAX, MAX, MAX, true)).call(x -> x.see(MIN, MIN, MIN, false)).hold();
        RefusedTest strike = new RefusedTest("P37 strike", -1);
        strike.call(x -> x.strike(-1)).call(x -> x.strike(4)).call(x -> x.strike(24)).call(x -> x.strike(MAX)).call(x -> x.strike(MIN));
        strike.hold();
        RefusedTest known = new RefusedTest("P38 known", 0);
        known.call(x -> bit(x.known(-2))).call(x -> bit(x.known(5))).call(x -> bit(x.known(24))).call(x -> bit(x.known(MAX)));
        known.call(x -> bit(x.known(MIN))).hold();
        BeatParish x = full();
        for (int k = 0; k < 9; k++) {
            Check.due("P36 a 25th", x.see(1, 0, k, false), -1);
            Check.due("P37 a 25th", x.strike(k), -1);
        }
        same("P36 and P37 behind 24", portrait(x), portrait(full()));
    }

    private static BeatParish full() {
        BeatParish x = lived();
        for (int k = 4; k < 24; k++) {
            Check.due("P36 number " + k, x.see(1, 0, 470, k % 2 == 0), k);
        }
        return x;
    }

    private static void asksRefused() {
        RefusedTest none = new RefusedTest("refused asks", -1);
        none.call(x -> x.fault(2)).call(x -> x.fault(-1)).call(x -> x.named(2, 1 << 25)).call(x -> x.named(0, 0));
        none.call(x -> x.work(4, 0)).call(x -> x.work(0, 6)).call(x -> x.tie(0, 3)).call(x -> x.ahead(201, 0, 0));
        none.call(x -> x.ahead(5, 4, 0)).call(x -> x.ahead(5, 0, 4)).call(x -> x.done(4)).call(x -> x.pace(0, 0));
        none.call(x -> x.pace(61, 0)).call(x -> x.pace(5, 3)).call(x -> x.bars(16)).call(x -> x.meet(0, 0, 0, 0));
        none.call(x -> x.cut(0, 1)).call(x -> x.cut(1, 1)).call(x -> x.crowd(201)).call(x -> x.off(0, 0, 0));
        none.call(x -> x.rests(1, 1)).call(x -> x.rest(1, 2, -1)).call(x -> x.reaches(0)).call(x -> x.pack(0));
        none.call(x -> x.canon(1, 1)).call(x -> x.strange(10000, 0)).call(x -> x.firstSlip(201, 0)).call(x -> x.startBy(0, 100));
        none.call(x -> x.startBy(2, 9)).call(x -> x.chance(-1, 5, 0)).call(x -> x.chance(5, 100, 0)).call(x -> x.tried(0, 1, 5));
        none.call(x -> x.tried(5, 0, 5)).call(x -> x.count(14)).call(x -> x.count(-1)).hold();
        new RefusedTest("P6 no PERSON", -100).call(x -> Check.man(x, 3, 0)).call(x -> Check.man(x, -1, 0)).hold();
        new RefusedTest("P6 no what", -200).call(x -> Check.man(x, 0, 6)).call(x -> Check.man(x, 0, -1)).hold();
        RefusedTest law = new RefusedTest("P10 law", Long.MIN_VALUE);
        law.call(x -> x.law(3, 0)).call(x -> x.law(0, 4)).call(x -> x.law(2, 3)).hold();
    }

    /** Asking what is or what comes. */
    private static void asks() {
        Call[] calls = {x -> x.ahead(200, 0, 0), x -> x.ahead(200, 1, 1), x -> x.done(1), x -> x.stops(), x -> x.pace(60, 2),
            x -> x.crowd(200), x -> x.off(1, 200, 1), x -> x.firstSlip(200, 0), x -> x.startBy(1, 99), x -> x.chance(7, 99, 1),
            x -> x.tried(0, 0, 99), x -> x.tried(1, 0, 99), x -> x.tried(2, 1, 99), x -> x.tried(3, 0, 99), x -> x.tried(4, 0, 99),
            x -> x.shifts(), x -> x.pack(999), x -> x.cut(1, 2), x -> x.law(0, 0), x -> x.beat(), x -> x.strange(0, 0)};
        for (int k = 0; k < calls.length; k++) {
            RefusedTest ask = new RefusedTest("asking " + k, calls[k].on(lived()));
            ask.call(calls[k]).call(calls[k]).hold();
        }
    }
}
