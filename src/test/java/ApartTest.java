import java.util.Arrays;
import java.util.List;

/** What a call leaves alone: all, if it only asks; each part of a parish is looked at by few calls, on an object of its own. */
final class ApartTest {
    private static final String TEXT = "man a 40 50;man b 30 90;man c 10 0;tie a b;tie b c;work p a 500 5 0;work q b 400 7 1;"
        + "work r c 30 1 1;work s c 90 2 3;speed 40;speed 50;spring 300;wasp 40;seed 11;law slip beat / 9 + (left > 400);"
        + "law wear 2;law hush 3;";

    /** A call; what it answers is another test's. */
    private interface Call {
        long on(BeatParish x);
    }

    /** A part of a parish, by what calls tell of it. */
    private enum Part {
        HOUR, COIL, SHIFT, HERE, HICCUPS, SLIPS, LEFT, DONE, SEEN, KNOWN, IMAGE, DEEDS, TAPE, FAULT, TOLD, NUMBER
    }

    private ApartTest() {
    }

    public static void main(String[] args) {
        asked();
        changed();
        Check.end();
    }

    /** Each part is another one than in a new parish, and another one in the IMAGE. */
    private static BeatParish lived() {
        BeatParish x = Check.parish(TEXT);
        x.shift(3);
        x.hiccup(1, 2);
        x.go(1);
        x.wind(9);
        x.keep();
        x.hiccup(0, 0);
        x.hiccup(1, 0);
        x.hiccup(2, 0);
        x.go(3);
        x.see(2, 0, 400, false);
        x.see(1, 1, 400, true);
        x.strike(0);
        x.see(3, 0, 380, true);
        x.known(3);
        x.shift(5);
        x.wind(50);
        x.hiccup(1, 4);
        x.aunt(0, true);
        Check.tell(x, "man b 1 1;?");
        Check.feed(x, "speed 7;speed 8;");
        return x;
    }

    private static long[] told(BeatParish x, Part part) {
        switch (part) {
            case HOUR:
                return new long[] {x.count(4)};
            case COIL:
                return new long[] {x.count(5)};
            case SHIFT:
                return new long[] {x.count(6)};
            case HERE:
                return men(x, 4);
            case HICCUPS:
                return men(x, 3);
            case SLIPS:
                return men(x, 2);
            case LEFT:
                return works(x, 4);
            case DONE:
                return works(x, 5);
            case SEEN:
                return new long[] {x.count(11), x.known(-1) ? 1 : 0, x.shifts(), x.known(2) ? 1 : 0, x.shifts()};
            case KNOWN:
                return new long[] {x.count(12)};
            case FAULT:
                return new long[] {x.fault(0), x.fault(1)};
            case TOLD:
                return new long[] {x.count(0), x.count(1), x.count(2), x.count(3), x.tie(0, 1), x.tie(0, 2), x.work(2, 1)};
            case TAPE:
                return new long[] {x.feed(0x3b202020, 0, 0, 0, 0), x.text(17), x.count(0), x.beat()};
            case IMAGE:
                return join(new long[] {x.back()}, now(x));
            case NUMBER:
                // the same BEAT, whoever is HERE: only WASPS tell one number from another one
                return wasps(x);
            default:
                return join(new long[] {x.count(13), x.undo()}, now(x), new long[] {x.undo(), x.undo()}, now(x),
                    new long[] {x.undo(), x.undo(), x.undo()}, now(x));
        }
    }

    private static long[] wasps(BeatParish x) {
        x.aunt(0, false);
        x.hiccup(0, 0);
        x.hiccup(1, 0);
        x.hiccup(2, 0);
        x.shift(-30);
        x.wind(40);
        long[] left = new long[12];
        for (int k = 0; k < left.length; k++) {
            x.go(1);
            left[k] = x.work(0, 4);
        }
        return left;
    }

    private static long[] now(BeatParish x) {
        return join(new long[] {x.count(4), x.count(5), x.count(6)}, men(x, 2), men(x, 3), men(x, 4), works(x, 4), works(x, 5));
    }

    private static long[] men(BeatParish x, int what) {
        return new long[] {Check.man(x, 0, what), Check.man(x, 1, what), Check.man(x, 2, what)};
    }

    private static long[] works(BeatParish x, int what) {
        return new long[] {x.work(0, what), x.work(1, what), x.work(2, what), x.work(3, what)};
    }

    private static long[] join(long[]... rows) {
        return Arrays.stream(rows).flatMapToLong(Arrays::stream).toArray();
    }

    private static long bit(boolean is) {
        return is ? 1 : 0;
    }

    /** Behind a call all parts but some are as without it, and those some are not. */
    private static void leaves(String name, Call call, Part... touched) {
        for (Part part : Part.values()) {
            BeatParish x = lived();
            call.on(x);
            boolean alike = Arrays.equals(told(x, part), told(lived(), part));
            Check.due(name + " leaves " + part + " as it was", alike, !List.of(touched).contains(part));
        }
    }

    private static void asked() {
        Call[] calls = {x -> x.fault(0), x -> x.fault(1), x -> x.fault(2), x -> x.named(0, 1 << 25), x -> x.named(1, 16 << 25),
            x -> x.named(2, 5), x -> Check.man(x, 0, 0), x -> Check.man(x, 1, 3), x -> Check.man(x, 2, 5), x -> Check.man(x, 2, 6),
            x -> Check.man(x, 3, 0), x -> x.work(0, 0), x -> x.work(2, 5), x -> x.work(4, 0), x -> x.tie(0, 1), x -> x.tie(0, 3),
            x -> x.beat(), x -> x.law(0, 0), x -> x.law(1, 0), x -> x.law(2, 2), x -> x.law(3, 0), x -> x.ahead(200, 0, 0),
            x -> x.ahead(9, 1, 1), x -> x.ahead(9, 2, 0), x -> x.ahead(9, 3, 0), x -> x.ahead(0, 0, 0), x -> x.done(1), x -> x.done(2),
            x -> x.done(4), x -> x.stops(), x -> x.pace(60, 0), x -> x.pace(1, 1), x -> x.pace(9, 2), x -> x.pace(0, 0),
            x -> x.bars(15), x -> x.bars(0), x -> x.bars(16), x -> x.meet(4, 1, 6, 3), x -> x.meet(2, 0, 2, 1), x -> x.meet(0, 0, 0, 0),
            x -> x.cut(1, 2), x -> x.cut(0, 2), x -> x.cut(1, 1), x -> x.crowd(200), x -> x.crowd(201), x -> x.off(1, 200, 1),
            x -> x.off(0, 0, 0), x -> x.rests(0, 1), x -> x.rests(1, 1), x -> x.rest(0, 1, 0), x -> x.rest(0, 1, 4), x -> x.reaches(1),
            x -> x.reaches(0), x -> x.slowest(), x -> x.pack(500), x -> x.pack(1), x -> x.pack(0), x -> x.canon(0, 1),
            x -> x.canon(1, 1), x -> x.strange(0, 0), x -> x.strange(0, 2), x -> x.firstSlip(200, 0), x -> x.firstSlip(200, 1),
            x -> x.firstSlip(0, 0), x -> x.goOn(), x -> x.startBy(1, 99), x -> x.startBy(1, 1), x -> x.startBy(2, 5), x -> x.idle(),
            x -> x.shifts(), x -> x.chance(7, 99, 1), x -> x.chance(-1, 9, 1), x -> x.tried(0, 0, 99), x -> x.tried(1, 0, 99),
            x -> x.tried(2, 1, 99), x -> x.tried(3, 0, 99), x -> x.tried(4, 0, 99), x -> x.tried(5, 0, 9), x -> x.count(5),
            x -> x.count(13), x -> x.count(14)};
        for (int k = 0; k < calls.length; k++) {
            leaves("asking " + k, calls[k]);
        }
    }

    private static void changed() {
        Part[] none = {};
        leaves("P2 feed", x -> x.feed(1, 2, 3, 4, 5), Part.TAPE);
        leaves("P3 text(-1)", x -> x.text(-1), none);
        leaves("P3 text(21)", x -> x.text(21), none);
        leaves("P3 a FAULT", x -> Check.tell(x, ";"), Part.TAPE, Part.FAULT);
        leaves("P11 shift", x -> bit(x.shift(7)), Part.SHIFT, Part.DEEDS);
        leaves("P11 no shift", x -> bit(x.shift(5)), none);
        leaves("P12 wind", x -> x.wind(5), Part.COIL, Part.DEEDS);
        leaves("P12 no wind", x -> x.wind(999), none);
        leaves("P13 hiccup", x -> bit(x.hiccup(1, 9)), Part.HICCUPS, Part.DEEDS);
        leaves("P13 no HICCUPS more", x -> bit(x.hiccup(1, 0)), Part.HICCUPS, Part.DEEDS);
        leaves("P13 not HERE", x -> bit(x.hiccup(0, 5)), none);
        leaves("P14 to the aunt", x -> bit(x.aunt(1, true)), Part.HERE, Part.HICCUPS, Part.DEEDS);
        leaves("P14 back from her", x -> bit(x.aunt(0, false)), Part.HERE, Part.DEEDS);
        leaves("P14 there already", x -> bit(x.aunt(0, true)), none);
        leaves("P15 go(0)", x -> x.go(0), none);
        leaves("P15 go(100)", x -> x.go(100), none);
        leaves("P36 see", x -> x.see(1, 0, 900, true), Part.SEEN);
        leaves("P36 no see", x -> x.see(0, 0, 900, true), none);
        leaves("P37 strike", x -> x.strike(2), Part.SEEN);
        leaves("P37 no strike", x -> x.strike(4), none);
        leaves("P38 known", x -> bit(x.known(1)), Part.KNOWN);
        leaves("P38 not known", x -> bit(x.known(5)), none);
        leaves("P42 undo", x -> x.undo(), Part.HERE, Part.DEEDS);
        leaves("P43 keep", x -> x.keep(), Part.IMAGE);
        Part[] kept = {Part.HOUR, Part.COIL, Part.SHIFT, Part.HERE, Part.HICCUPS, Part.SLIPS, Part.LEFT, Part.DONE, Part.DEEDS,
            Part.NUMBER};
        leaves("P44 back", x -> x.back(), kept);
        Part[] gone = {Part.HOUR, Part.COIL, Part.HICCUPS, Part.SLIPS, Part.LEFT, Part.DONE, Part.DEEDS, Part.NUMBER};
        leaves("P15 go", x -> x.go(2), gone);
    }
}
