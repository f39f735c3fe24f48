/** Promises 36 to 41: see, strike, known, shifts, chance, tried. */
final class SeenTest {
    private SeenTest() {
    }

    public static void main(String[] args) {
        seeing();
        full();
        shifts();
        ofAnotherText();
        strikes();
        fromTheText();
        chance();
        drawnOneBehindAnother();
        tried();
        triedBounds();
        Check.end();
    }

    private static void seeing() {
        BeatParish x = Check.parish("man a 9 0;work p a 90 1 0;work q a 90 1 0;");
        Check.due("P36 hours 0", x.see(0, 0, 5, true), -1);
        Check.due("P36 hours 41", x.see(41, 0, 5, true), -1);
        Check.due("P36 no WORK 2", x.see(1, 2, 5, true), -1);
        Check.due("P36 no WORK -1", x.see(1, -1, 5, true), -1);
        Check.due("P36 beats -1", x.see(1, 0, -1, true), -1);
        Check.due("P36 beats 1000", x.see(1, 0, 1000, true), -1);
        Check.due("P37 nothing SEEN", x.strike(0), -1);
        Check.due("P36 the first", x.see(1, 0, 0, true), 0);
        Check.due("P36 the second", x.see(40, 1, 999, false), 1);
        Check.due("P37 no such one", x.strike(2), -1);
        Check.due("P37 -1", x.strike(-1), -1);
        Check.due("P37 a STRIKE", x.strike(1), 2);
        Check.due("P37 a STRIKE of a STRIKE", x.strike(2), 3);
        Check.due("P37 of one twice", x.strike(2), 4);
        Check.due("P38 -2", x.known(-2), false);
        Check.due("P38 6", x.known(6), false);
        Check.due("P38 5", x.known(5), true);
        Check.due("P38 5 again", x.known(5), true);
        x.see(1, 0, 0, true);
        Check.due("P38 by 5 from now on", x.count(12), 5);
        Check.due("P38 0", x.known(0), true);
        Check.due("P38 by none", x.count(12), 0);
        Check.due("P38 -1", x.known(-1), true);
        Check.due("P38 by all", x.count(12), 6);
        x.see(1, 0, 0, true);
        Check.due("P38 also those to come", x.count(12), 7);
        Check.due("P38 a refused n leaves it", x.known(99), false);
        Check.due("P38 by all still", x.count(12), 7);
    }

    private static void full() {
        BeatParish x = Check.parish("man a 9 0;work p a 90 1 0;");
        for (int k = 0; k < 24; k++) {
            Check.due("P36 number " + k, k % 3 == 2 ? x.strike(k - 1) : x.see(1, 0, k, true), k);
        }
        Check.due("P36 there are 24", x.see(1, 0, 5, true), -1);
        Check.due("P37 there are 24", x.strike(0), -1);
        Check.due("P45 24 SEEN", x.count(11), 24);
        Check.due("P38 known(24)", x.known(24), true);
        Check.due("P38 known(25)", x.known(25), false);
    }

    // behind an HOUR 50 - s are left of p, behind two 0 or so; s is the SHIFT
    private static void shifts() {
        BeatParish x = Check.parish("man a 9 0;work p a 100 1 0;speed 50;speed 25;");
        Check.due("P39 nothing SEEN", x.shifts(), 1023);
        x.see(1, 0, 50, true);
        Check.due("P39 at least 50", x.shifts(), 1);
        Check.due("P39 none fits", seen(x, 1, 50, false), 0);
        x.strike(0);
        Check.due("P39 fewer than 50", x.shifts(), 1022);
        Check.due("P39 at least 23", seen(x, 1, 23, true), 1022);
        Check.due("P39 at least 24", seen(x, 1, 24, true), 510);
        // behind two: 25 - 2 * s, so 25, 19, 13, 7, 1, 0, ..
        Check.due("P39 behind two, at least 7", seen(x, 2, 7, true), 14);
        Check.due("P39 behind two, fewer than 19", seen(x, 2, 19, false), 12);
        Check.due("P39 behind 40 at least 0", seen(x, 40, 0, true), 12);
        Check.due("P39 behind 40 at least 1", seen(x, 40, 1, true), 0);
        x.known(8);
        Check.due("P39 by the first eight", x.shifts(), 12);
        x.known(2);
        Check.due("P39 by the first two", x.shifts(), 0);
        x.known(0);
        Check.due("P39 by none", x.shifts(), 1023);
    }

    private static void ofAnotherText() {
        BeatParish x = Check.parish("man a 9 0;work p a 100 1 0;speed 50;");
        x.see(1, 0, 50, true);
        x.strike(0);
        x.known(1);
        Check.tell(x, "man a 9 0;work p a 100 1 0;speed 50;");
        Check.due("P39 nothing SEEN of another TEXT", x.shifts(), 1023);
        x.see(1, 0, 50, false);
        Check.due("P39 fewer in place of at least", x.shifts(), 1022);
    }

    private static int seen(BeatParish x, int hours, int beats, boolean atLeast) {
        x.see(hours, 0, beats, atLeast);
        return x.shifts();
    }

    private static void strikes() {
        BeatParish x = Check.parish("man a 9 0;work p a 100 1 0;speed 50;");
        x.see(1, 0, 42, true);
        x.see(1, 0, 45, false);
        Check.due("P39 both", x.shifts(), 4);
        x.strike(0);
        Check.due("P39 the first one STRUCK", x.shifts(), 1020);
        x.strike(2);
        Check.due("P39 the STRIKE STRUCK", x.shifts(), 4);
        x.strike(3);
        Check.due("P39 that one STRUCK, too", x.shifts(), 1020);
        x.strike(1);
        Check.due("P39 both STRUCK", x.shifts(), 1023);
        x.strike(5);
        Check.due("P39 one again", x.shifts(), 1020);
        int[] due = {1023, 7, 4, 1020, 4, 1020, 1023, 1020};
        for (int n = 0; n < 7; n++) {
            x.known(n);
            Check.due("P39 KNOWN by " + n, x.shifts(), n < 6 ? due[n] : x.shifts());
        }
        x.known(6);
        Check.due("P39 KNOWN by 6", x.shifts(), 1023);
        x.known(7);
        Check.due("P39 KNOWN by 7", x.shifts(), 1020);
    }

    private static void fromTheText() {
        BeatParish x = Check.parish("man a 9 0;work p a 100 1 0;work q a 90 2 1;speed 50;wasp 50;seed 3;");
        BeatParish y = Check.parish("man a 9 0;work p a 100 1 0;work q a 90 2 1;speed 50;wasp 50;seed 3;");
        x.shift(40);
        x.hiccup(0, 9);
        x.go(3);
        x.aunt(0, true);
        x.wind(5);
        for (int k = 0; k < 2; k++) {
            BeatParish z = k == 0 ? x : y;
            z.see(2, 1, 5, false);
            // as it goes a WASP is in: 90 less 2 * (25 + 25 + s) or so
            Check.due("P39 from the TEXT on", z.shifts(), 1023);
            z.see(1, 0, 1, true);
            Check.due("P39 from the TEXT on, none", z.shifts(), 0);
        }
        y = Check.parish("man a 9 0;work p a 100 1 0;speed 20;wasp 50;");
        y.see(1, 0, 55, true);
        Check.due("P39 WASPS as it goes", y.shifts(), 1);
        y = Check.parish("man a 9 0;work p a 100 1 0;speed 20;spring 1;");
        y.see(5, 0, 74, true);
        Check.due("P39 the spring stops", y.shifts(), 7);
        y = Check.parish("man a 9 0;work p a 999 1 0;speed 190;");
        y.see(1, 0, 800, false);
        Check.due("P39 199 at most", y.shifts(), 0);
    }

    private static void chance() {
        BeatParish x = Check.parish("man a 9 0;work p a 200 1 0;work q a 60 1 0;work r a 300 1 0;speed 60;wasp 100;");
        Check.due("P40 always", x.chance(5, 2, 0), 10);
        Check.due("P40 never", x.chance(5, 2, 2), 0);
        Check.due("P40 n 0", x.chance(5, 0, 0), -1);
        Check.due("P40 n 100", x.chance(5, 100, 0), -1);
        Check.due("P40 n 99", x.chance(5, 99, 2), 10);
        Check.due("P40 seed -1", x.chance(-1, 1, 0), -1);
        Check.due("P40 seed 2147483647", x.chance(2147483647, 1, 1), 10);
        Check.due("P40 no WORK 3", x.chance(5, 1, 3), -1);
        Check.due("P40 no WORK -1", x.chance(5, 1, -1), -1);
        x.go(1);
        Check.due("P40 it is DONE", x.chance(5, 1, 1), 10);
    }

    private static void drawnOneBehindAnother() {
        int[] seeds = {0, 1, 99999, 2147483647, 123456789};
        int[] wasps = {1, 30, 50, 70, 99};
        for (int seed : seeds) {
            for (int wasp : wasps) {
                BeatParish x = Check.parish("man a 9 0;work p a 100 1 0;speed 20;seed 4;wasp " + wasp + ";");
                long number = seed;
                int times = 0;
                for (int time = 0; time < 10; time++) {
                    int left = 100;
                    for (int hour = 0; hour < 4; hour++) {
                        number = (number * 1103515245L + 12345L) % (1L << 31);
                        left -= number / 65536 % 100 < wasp ? 40 : 20;
                    }
                    times += left <= 0 ? 1 : 0;
                }
                Check.due("P40 seed " + seed + ", wasp " + wasp, x.chance(seed, 4, 0), times);
                Check.due("P40 again", x.chance(seed, 4, 0), times);
            }
        }
    }

    private static void tried() {
        BeatParish x = Check.parish("man a 20 99;man b 30 0;tie a b;work p a 100 1 0;work q b 900 1 0;speed 50;wasp 50;"
            + "spring 3;");
        // with WASPS BEAT is 100: a slips 8 in HOUR 0, b 7 in each of three
        Check.due("P41 no WASPS", x.tried(0, 0, 9), 3 + 3 + 2 * 3);
        Check.due("P41 nobody has HICCUPS", x.tried(1, 0, 9), 8 + 21);
        Check.due("P41 a isn't HERE", x.tried(2, 0, 9), 21);
        Check.due("P41 b isn't HERE", x.tried(2, 1, 9), 8);
        Check.due("P41 COIL is 999", x.tried(3, 0, 9), 8 + 63);
        Check.due("P41 n 1", x.tried(3, 0, 1), 15);
        Check.due("P41 n 0", x.tried(3, 0, 0), 0);
        Check.due("P41 SHIFT is 0", x.tried(4, 0, 9), 29);
        x.shift(-30);
        Check.due("P41 SHIFT as it is", x.tried(1, 0, 9), 2 * 3 + 1 * 3);
        Check.due("P41 SHIFT is 0 then", x.tried(4, 0, 9), 29);
        x.shift(0);
        x.hiccup(0, 2);
        // a has HICCUPS in HOURS 0 and 1, b by a in HOUR 1
        Check.due("P41 with HICCUPS", x.tried(4, 0, 9), 7 + 8 + 7);
        Check.due("P41 without HICCUPS", x.tried(1, 0, 9), 29);
        Check.due("P41 who has them isn't HERE", x.tried(2, 0, 9), 21);
        Check.due("P41 to whom they'd go isn't HERE", x.tried(2, 1, 9), 8);
        Check.due("P41 all is as it was", Check.man(x, 0, 3), 2);
        Check.due("P41 COIL is as it was", x.count(5), 3);
        x.go(1);
        Check.due("P41 SLIPS more", x.tried(1, 0, 9), 8 + 14);
    }

    private static void triedBounds() {
        BeatParish x = Check.parish("man a 20 99;man b 30 0;work p a 100 1 0;");
        Check.due("P41 what 5", x.tried(5, 0, 1), -1);
        Check.due("P41 what -1", x.tried(-1, 0, 1), -1);
        Check.due("P41 n 100", x.tried(0, 0, 100), -1);
        Check.due("P41 n -1", x.tried(0, 0, -1), -1);
        Check.due("P41 n 99", x.tried(0, 0, 99), 8);
        Check.due("P41 no PERSON 2", x.tried(2, 2, 1), -1);
        Check.due("P41 no PERSON -1", x.tried(2, -1, 1), -1);
        Check.due("P41 PERSON 1", x.tried(2, 1, 1), 4);
        int[] others = {0, 1, 3, 4};
        for (int what : others) {
            Check.due("P41 i 1 of " + what, x.tried(what, 1, 1), -1);
            Check.due("P41 i 0 of " + what, x.tried(what, 0, 1), 4);
        }
        Check.due("P41 without PEOPLE", new BeatParish().tried(0, 0, 1), 0);
        Check.due("P41 2 without PEOPLE", new BeatParish().tried(2, 0, 1), -1);
        x.aunt(0, true);
        Check.due("P41 one who isn't HERE already", x.tried(2, 0, 1), 0);
    }
}
