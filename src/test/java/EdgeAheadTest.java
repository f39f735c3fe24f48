/** Promises 16 to 19, 23, 24, 32 to 34: the most HOURS, what is at first, what is of several. */
final class EdgeAheadTest {
    private static final int MIN = Integer.MIN_VALUE;
    private static final int MAX = Integer.MAX_VALUE;
    private static final int[] FAR = {-2, -1, MIN, MAX};

    private EdgeAheadTest() {
    }

    public static void main(String[] args) {
        ahead();
        aheadMore();
        done();
        stops();
        paceLimits();
        paceOrder();
        paceMore();
        crowd();
        offLimits();
        offOf();
        firstSlipLimits();
        firstSlipOf();
        goOn();
        startByLimits();
        startByLatest();
        eachAsItGoes();
        nothingTold();
        fewerTold();
        nothingChanged();
        Check.end();
    }

    /** AHEAD (n 0 .. 200), what 0 .. 3. */
    private static void ahead() {
        BeatParish x = Check.parish("man a 9 0;man b 9 0;work p a 999 1 0;work q b 30 1 0;speed 1;spring 999;law slip 2;");
        for (int n = 0; n <= 200; n++) {
            if (n < 35 || n > 190) {
                Check.due("P16 left in " + n, x.ahead(n, 0, 0), 999 - n);
                Check.due("P16 left of q in " + n, x.ahead(n, 0, 1), Math.max(0, 30 - n));
                Check.due("P16 SLIPS in " + n, x.ahead(n, 1, 0), 2 * n);
                Check.due("P16 SLIPS of b in " + n, x.ahead(n, 1, 1), 2 * Math.min(30, n));
                Check.due("P16 COIL in " + n, x.ahead(n, 2, 0), 999 - n);
                Check.due("P16 DONE in " + n, x.ahead(n, 3, 0), n < 30 ? 0 : 1);
            }
        }
        int[] none = {-1, 201, 202, MIN, MAX};
        for (int n : none) {
            for (int what = -1; what <= 4; what++) {
                Check.due("P16 ahead(" + n + ", " + what + ", 0)", x.ahead(n, what, 0), -1);
            }
        }
        int[] others = {-1, 4, 5, MIN, MAX};
        for (int what : others) {
            Check.due("P16 ahead(5, " + what + ", 0)", x.ahead(5, what, 0), -1);
        }
        int[] which = {-1, 2, 8, MIN, MAX};
        for (int one : which) {
            Check.due("P16 ahead(5, 0, " + one + ")", x.ahead(5, 0, one), -1);
            Check.due("P16 ahead(0, 0, " + one + ")", x.ahead(0, 0, one), -1);
            Check.due("P16 ahead(5, 1, " + one + ")", x.ahead(5, 1, one), -1);
            Check.due("P16 ahead(5, 2, " + one + ")", x.ahead(5, 2, one), 994);
            Check.due("P16 ahead(30, 3, " + one + ")", x.ahead(30, 3, one), 1);
        }
    }

    /** SLIPS more, DONE more: of what comes only; what is left and COIL whole. */
    private static void aheadMore() {
        BeatParish x = Check.parish("man a 9 0;work p a 60 1 0;work q a 120 1 0;work r a 180 1 0;law slip 7;");
        x.go(1);
        Check.due("P16 SLIPS more by none", x.ahead(0, 1, 0), 0);
        Check.due("P16 SLIPS more by 1", x.ahead(1, 1, 0), 14);
        Check.due("P16 SLIPS more by 200", x.ahead(200, 1, 0), 21);
        Check.due("P16 DONE more by none", x.ahead(0, 3, 0), 0);
        Check.due("P16 DONE more by 1", x.ahead(1, 3, 0), 1);
        Check.due("P16 DONE more by 200", x.ahead(200, 3, 0), 2);
        Check.due("P16 left of one that is DONE", x.ahead(5, 0, 0), 0);
        Check.due("P16 left by none", x.ahead(0, 0, 2), 120);
        x.go(1);
        Check.due("P16 DONE more, two are", x.ahead(0, 3, 0), 0);
        Check.due("P16 DONE more, two are, by 1", x.ahead(1, 3, 0), 1);
        x.go(1);
        Check.due("P16 DONE more, all are", x.ahead(200, 3, 0), 0);
        x = Check.parish("man a 9 0;");
        x.go(1);
        Check.due("P16 COIL by none", x.ahead(0, 2, 0), 199);
        Check.due("P16 COIL by 198", x.ahead(198, 2, 0), 1);
        Check.due("P16 COIL by 199", x.ahead(199, 2, 0), 0);
        Check.due("P16 COIL by 200", x.ahead(200, 2, 0), 0);
    }

    /** DONE: 200 at most (0: it is); -2: not by then. */
    private static void done() {
        int[] beats = {1, 2, 199, 200, 201, 999};
        for (int many : beats) {
            BeatParish x = Check.parish("man a 9 0;work o a 1 1 0;work p a " + many + " 1 0;speed 1;spring 999;");
            Check.due("P17 of " + many, x.done(1), many <= 200 ? many : -2);
            x.go(1);
            Check.due("P17 of " + many + " an HOUR later", x.done(1), many <= 201 ? many - 1 : -2);
            Check.due("P17 it is", x.done(0), 0);
        }
        BeatParish x = Check.parish("man a 9 0;work p a 200 1 0;work q a 200 1 0;speed 1;");
        Check.due("P17 the last HOUR of the spring", x.done(0), 200);
        x = Check.parish("man a 9 0;work p a 200 1 0;work q a 200 1 0;speed 1;spring 199;");
        Check.due("P17 the spring stops ahead of it", x.done(0), -2);
        int[] none = {-1, 2, 8, MIN, MAX};
        for (int work : none) {
            Check.due("P17 done(" + work + ")", x.done(work), -1);
        }
        x.hiccup(0, 9);
        x.wind(800);
        Check.due("P17 behind HICCUPS", x.done(1), -2);
        x.hiccup(0, 0);
        Check.due("P17 without", x.done(1), 200);
    }

    /** STOPS: 999 at most, COIL is 0 (0: it is); -2: not by then. */
    private static void stops() {
        int[] springs = {0, 1, 2, 200, 998, 999};
        for (int spring : springs) {
            BeatParish x = Check.parish("spring " + spring + ";");
            Check.due("P18 of " + spring, x.stops(), spring);
            x.go(1);
            Check.due("P18 of " + spring + " an HOUR later", x.stops(), Math.max(0, spring - 1));
        }
        Check.due("P18 999 by 999", Check.parish("spring 999;law wear hour <> 7;").stops(), -2);
        Check.due("P18 998 by 999", Check.parish("spring 998;law wear hour <> 7;").stops(), 999);
        Check.due("P18 all at once in the last HOUR", Check.parish("spring 99;law wear (hour = 998) * 99;").stops(), 999);
        Check.due("P18 all at once behind it", Check.parish("spring 99;law wear (hour = 999) * 99;").stops(), -2);
        Check.due("P18 never", Check.parish("law wear 0;").stops(), -2);
        Check.due("P18 in one", Check.parish("spring 99;law wear 99;").stops(), 1);
        Check.due("P18 in two", Check.parish("spring 100;law wear 99;").stops(), 2);
        BeatParish x = new BeatParish();
        x.wind(799);
        Check.due("P18 wound", x.stops(), 999);
    }

    /** PACE (n 1 .. 60), what 0: the SPEED, 1: DONE, 2: SLIPS. */
    private static void paceLimits() {
        BeatParish x = Check.parish("man a 10 0;work p a 60 1 0;");
        int[] none = {-1, 0, 61, 62, 200, MIN, MAX};
        for (int n : none) {
            for (int what = -1; what <= 3; what++) {
                Check.due("P19 pace(" + n + ", " + what + ")", x.pace(n, what), -1);
            }
        }
        int[] others = {-1, 3, 4, MIN, MAX};
        for (int what : others) {
            Check.due("P19 pace(5, " + what + ")", x.pace(5, what), -1);
        }
        Check.due("P19 SPEED in 1", x.pace(1, 0), 60);
        Check.due("P19 DONE in 1", x.pace(1, 1), 1);
        Check.due("P19 SLIPS in 1", x.pace(1, 2), 5);
        Check.due("P19 SPEED in 60", x.pace(60, 0), 1);
        Check.due("P19 DONE in 60", x.pace(60, 1), 1);
        Check.due("P19 SLIPS in 60", x.pace(60, 2), 0);
        // SPEED 1 .. 99
        x = Check.parish("man a 99 0;work p a 99 1 0;work q a 100 1 0;");
        Check.due("P19 99 at most", x.pace(1, 0), 99);
        Check.due("P19 DONE by 99", x.pace(1, 1), 1);
        x = Check.parish("man a 99 0;work p a 100 1 0;speed 199;");
        Check.due("P19 none by 99, so the first", x.pace(1, 0), 1);
        Check.due("P19 DONE none", x.pace(1, 1), 0);
        x = Check.parish("man a 1 0;work p a 1 1 0;speed 199;");
        Check.due("P19 1 at least", x.pace(1, 0), 1);
        Check.due("P19 DONE by 1", x.pace(1, 1), 1);
    }

    /** Most WORKS DONE more, then fewest SLIPS more of all, the first of several. */
    private static void paceOrder() {
        BeatParish x = Check.parish("man a 50 0;man b 10 0;work p a 20 1 0;work q b 40 1 0;");
        Check.due("P19 most DONE goes ahead of SLIPS", x.pace(1, 1), 2);
        Check.due("P19 its SPEED", x.pace(1, 0), 40);
        Check.due("P19 its SLIPS", x.pace(1, 2), 3);
        // slips: 9 below 30, 1 from 30 on but 0 at 50 and 70
        x = Check.parish("man a 50 0;work p a 20 1 0;law slip 1 + 8 * (beat < 30) - (beat = 50 or beat = 70);");
        Check.due("P19 fewest SLIPS, the first of several", x.pace(1, 0), 50);
        Check.due("P19 fewest SLIPS", x.pace(1, 2), 0);
        x = Check.parish("man a 50 0;man b 50 0;work p a 20 1 0;work q b 999 1 0;law slip bar * (beat < 30) + (beat = 20) * 0;");
        Check.due("P19 SLIPS of all", x.pace(1, 0), 30);
        // by SPEED 1 on; SHIFT makes of them 199 or 1
        x = Check.parish("man a 199 0;work p a 100 1 0;work q a 1 1 0;");
        x.shift(99);
        Check.due("P19 with SHIFT 99", x.pace(1, 0), 1);
        Check.due("P19 DONE with SHIFT 99", x.pace(1, 1), 2);
        x.shift(-98);
        Check.due("P19 with SHIFT -98", x.pace(1, 0), 1);
        Check.due("P19 DONE with SHIFT -98", x.pace(1, 1), 1);
        x.shift(2);
        Check.due("P19 with SHIFT 2", x.pace(1, 0), 98);
        Check.due("P19 DONE with SHIFT 2", x.pace(1, 1), 2);
        x = Check.parish("man a 199 0;work p a 100 1 0;speed 5;speed 9;wasp 50;");
        Check.due("P19 with WASPS", x.pace(1, 0), 50);
        x = Check.parish("man a 199 0;work p a 100 1 0;wasp 49;");
        Check.due("P19 without WASPS", x.pace(2, 0), 50);
        x = Check.parish("man a 199 0;work p a 100 1 0;law wear beat;spring 90;");
        // 16 beats six times, 14 seven times, 12 eight times, then COIL is 0
        Check.due("P19 the spring wears", x.pace(9, 0), 17);
        x = Check.parish("man a 199 0;work p a 100 1 0;law wear beat / 10 * 9;spring 99;");
        Check.due("P19 slowly without wear", x.pace(60, 0), 2);
        x = Check.parish("man a 9 0;work p a 100 1 0;spring 0;");
        Check.due("P19 COIL 0", x.pace(60, 0), 1);
        Check.due("P19 DONE with COIL 0", x.pace(60, 1), 0);
        Check.due("P19 SLIPS with COIL 0", x.pace(60, 2), 0);
    }

    /** More: what was ahead of now isn't reckoned. */
    private static void paceMore() {
        BeatParish x = Check.parish("man a 10 0;work p a 60 1 0;work q a 120 1 0;speed 60;");
        x.go(1);
        Check.due("P19 SLIPS had", x.count(8), 10);
        Check.due("P19 SPEED for what is left", x.pace(2, 0), 30);
        Check.due("P19 DONE more", x.pace(2, 1), 1);
        Check.due("P19 SLIPS more", x.pace(2, 2), 4);
        Check.due("P19 SLIPS more, none DONE", Check.parish("man a 10 0;work p a 999 1 0;").pace(1, 2), 0);
        x.go(1);
        Check.due("P19 all are DONE: the first", x.pace(9, 0), 1);
        Check.due("P19 all are DONE", x.pace(9, 1), 0);
        Check.due("P19 all are DONE: SLIPS more", x.pace(9, 2), 0);
    }

    /** CROWD of n HOURS 0 .. 200. */
    private static void crowd() {
        BeatParish x = Check.parish("man a 9 0;work p a 1 1 0;work q a 2 1 0;work r a 200 1 0;work s a 201 1 0;work t a 3 1 0;"
            + "work u a 999 1 0;work v a 1 1 99;work w a 199 1 0;speed 1;spring 999;");
        int[][] due = {{0, 0}, {1, 1}, {2, 3}, {3, 19}, {99, 19}, {100, 83}, {198, 83}, {199, 211}, {200, 215}, {-1, -1}, {201, -1},
            {MIN, -1}, {MAX, -1}};
        for (int[] one : due) {
            Check.due("P23 crowd(" + one[0] + ")", x.crowd(one[0]), one[1]);
        }
        x.go(2);
        Check.due("P23 those that weren't", x.crowd(200), 214 - 2 + 8);
        Check.due("P23 by none", x.crowd(0), 0);
        Check.due("P23 by 1", x.crowd(1), 16);
        x.aunt(0, true);
        Check.due("P23 not HERE", x.crowd(200), 0);
    }

    /** OFF (n 1 .. 200), what 0 and 1. */
    private static void offLimits() {
        BeatParish x = Check.parish("man a 9 0;man b 9 0;work p a 999 1 0;speed 1;spring 999;law slip hour >= 199;");
        int[] none = {-1, 0, 201, 202, MIN, MAX};
        for (int n : none) {
            for (int what = -1; what <= 2; what++) {
                Check.due("P24 off(0, " + n + ", " + what + ")", x.off(0, n, what), -1);
            }
        }
        int[] others = {-1, 2, 3, MIN, MAX};
        for (int what : others) {
            Check.due("P24 off(0, 5, " + what + ")", x.off(0, 5, what), -1);
        }
        int[] men = {-1, 2, 6, MIN, MAX};
        for (int man : men) {
            Check.due("P24 off(" + man + ", 5, 0)", x.off(man, 5, 0), -1);
            Check.due("P24 off(" + man + ", 5, 1)", x.off(man, 5, 1), -1);
        }
        Check.due("P24 in 1, above", x.off(0, 1, 0), 0);
        Check.due("P24 in 1, below", x.off(0, 1, 1), 1);
        Check.due("P24 in 199, above", x.off(0, 199, 0), 0);
        Check.due("P24 in 199, below", x.off(0, 199, 1), 1);
        Check.due("P24 in 200, above", x.off(0, 200, 0), 1);
        Check.due("P24 in 200, below", x.off(0, 200, 1), 200);
        Check.due("P24 0 by 1 without a WORK, above", x.off(1, 200, 0), 0);
        Check.due("P24 0 by 1 without a WORK, below", x.off(1, 200, 1), 1);
    }

    private static void offOf() {
        for (int with = 0; with <= 12; with++) {
            BeatParish x = Check.parish("man a 9 0;work p a 120 1 0;speed 10;law slip hour < " + with + ";");
            int above = with;
            int below = 12;
            for (int by = 12; by > 1; by--) {
                if (above % by == 0 && below % by == 0) {
                    above /= by;
                    below /= by;
                }
            }
            for (int n = 12; n < 15; n++) {
                Check.due("P24 " + with + " of 12, above", x.off(0, n, 0), above);
                Check.due("P24 " + with + " of 12, below", x.off(0, n, 1), below);
            }
        }
        // two WORKS of one PERSON in one HOUR are one HOUR; SLIPS of another one are none
        BeatParish x = Check.parish("man a 9 0;man b 199 0;work p a 30 1 0;work q a 30 1 2;work r b 90 1 0;speed 10;"
            + "law slip fast < 99 and left > 10;");
        Check.due("P24 any of its WORKS, above", x.off(0, 9, 0), 4);
        Check.due("P24 any of its WORKS, below", x.off(0, 9, 1), 5);
        Check.due("P24 of b, above", x.off(1, 9, 0), 0);
        Check.due("P24 of b, below", x.off(1, 9, 1), 1);
        x.hiccup(0, 9);
        Check.due("P24 HICCUPS, above", x.off(0, 9, 0), 0);
        Check.due("P24 HICCUPS, below", x.off(0, 9, 1), 1);
        x.hiccup(0, 0);
        x.aunt(0, true);
        Check.due("P24 not HERE, above", x.off(0, 9, 0), 0);
        Check.due("P24 not HERE, below", x.off(0, 9, 1), 1);
        x.aunt(0, false);
        x.go(4);
        Check.due("P24 only what comes, above", x.off(0, 9, 0), 0);
        Check.due("P24 only what comes, below", x.off(0, 9, 1), 1);
    }

    /** In how many HOURS, n 1 .. 200 at most (1: this one); -2: not by then. */
    private static void firstSlipLimits() {
        BeatParish x = Check.parish("man a 9 0;work p a 999 1 0;speed 1;spring 999;law slip hour = 199;");
        int[] none = {-1, 0, 201, 202, MIN, MAX};
        for (int n : none) {
            for (int what = -1; what <= 2; what++) {
                Check.due("P32 firstSlip(" + n + ", " + what + ")", x.firstSlip(n, what), -1);
            }
        }
        int[] others = {-1, 2, 3, MIN, MAX};
        for (int what : others) {
            Check.due("P32 firstSlip(200, " + what + ")", x.firstSlip(200, what), -1);
        }
        Check.due("P32 in 200", x.firstSlip(200, 0), 200);
        Check.due("P32 in 200, of whom", x.firstSlip(200, 1), 0);
        Check.due("P32 not by 199", x.firstSlip(199, 0), -2);
        Check.due("P32 not by 199, of whom", x.firstSlip(199, 1), -2);
        x.go(1);
        Check.due("P32 in 199", x.firstSlip(200, 0), 199);
        x = Check.parish("man a 9 0;work p a 999 1 0;");
        Check.due("P32 this one", x.firstSlip(1, 0), 1);
        Check.due("P32 this one, of whom", x.firstSlip(1, 1), 0);
        x.go(3);
        Check.due("P32 this one again", x.firstSlip(200, 0), 1);
    }

    private static void firstSlipOf() {
        String people = "man a 9 0;man b 9 0;man c 9 0;work p c 99 1 0;work q b 99 1 0;work r a 99 1 1;speed 5;";
        BeatParish x = Check.parish(people + "law slip 1;");
        Check.due("P32 the first of several", x.firstSlip(9, 1), 1);
        x.aunt(1, true);
        Check.due("P32 the one HERE", x.firstSlip(9, 1), 2);
        x.hiccup(2, 1);
        Check.due("P32 both in HOUR 1", x.firstSlip(9, 0), 2);
        Check.due("P32 both in HOUR 1, of whom", x.firstSlip(9, 1), 0);
        x = Check.parish(people + "law slip hour > 0 and left < 95;");
        Check.due("P32 more first", x.firstSlip(9, 0), 2);
        Check.due("P32 more first, of whom", x.firstSlip(9, 1), 1);
        x = Check.parish(people + "law slip 0;");
        Check.due("P32 never", x.firstSlip(200, 0), -2);
        Check.due("P32 never, of whom", x.firstSlip(200, 1), -2);
    }

    private static void goOn() {
        BeatParish x = Check.parish("man a 9 0;man b 9 0;work p a 60 1 0;work q a 1 1 0;work r b 1 1 1;work s b 999 1 0;work t a 9 1 0;"
            + "work u a 9 1 0;work v a 9 1 0;work w b 999 1 99;spring 3;");
        Check.due("P33 at 0", x.goOn(), 255 - 4 - 128);
        x.go(1);
        Check.due("P33 at 1", x.goOn(), 12);
        x.hiccup(1, 1);
        Check.due("P33 HICCUPS", x.goOn(), 0);
        x.hiccup(1, 0);
        x.aunt(1, true);
        Check.due("P33 not HERE", x.goOn(), 0);
        x.aunt(1, false);
        x.go(1);
        Check.due("P33 COIL 1", x.goOn(), 8);
        x.go(1);
        Check.due("P33 COIL 0", x.goOn(), 0);
        Check.due("P33 none is told", new BeatParish().goOn(), 0);
    }

    /** The latest HOUR from now on (0 up to below n, n 1 .. 99). */
    private static void startByLimits() {
        String text = "man a 9 0;work p a 1 1 0;work q a 98 1 0;work r a 99 1 0;work s a 100 1 0;work t a 1 1 99;work u a 2 1 0;speed 1;";
        BeatParish x = Check.parish(text);
        int[] none = {-1, 0, 100, 101, MIN, MAX};
        for (int n : none) {
            Check.due("P34 startBy(0, " + n + ")", x.startBy(0, n), -1);
            Check.due("P34 startBy(3, " + n + ")", x.startBy(3, n), -1);
        }
        int[] works = {-1, 6, 8, MIN, MAX};
        for (int work : works) {
            Check.due("P34 startBy(" + work + ", 5)", x.startBy(work, 5), -1);
        }
        for (int n = 1; n <= 99; n++) {
            x = n == 50 ? Check.parish(text) : x;
            Check.due("P34 one beat in " + n, x.startBy(0, n), n - 1);
            Check.due("P34 one beat in place of HOUR 99 in " + n, x.startBy(4, n), n - 1);
            Check.due("P34 two beats in " + n, x.startBy(5, n), n > 1 ? n - 2 : -2);
            Check.due("P34 98 beats in " + n, x.startBy(1, n), n >= 98 ? n - 98 : -2);
            Check.due("P34 99 beats in " + n, x.startBy(2, n), n == 99 ? 0 : -2);
            Check.due("P34 100 beats in " + n, x.startBy(3, n), -2);
        }
        x.go(1);
        Check.due("P34 DONE", x.startBy(0, 5), -1);
        Check.due("P34 DONE and no such n", x.startBy(0, 0), -1);
        Check.due("P34 what is left", x.startBy(5, 9), 8);
        Check.due("P34 what is left of 100", x.startBy(3, 99), 0);
    }

    private static void startByLatest() {
        // beats of the HOURS: 10, 20, 30, 10, 20, ..
        BeatParish x = Check.parish("man a 9 0;work p a 60 1 50;work q a 61 1 0;work r a 31 1 0;speed 10;speed 20;speed 30;");
        Check.due("P34 60 of the last three", x.startBy(0, 3), 0);
        Check.due("P34 60 of four", x.startBy(0, 4), 1);
        Check.due("P34 60 of five", x.startBy(0, 5), 2);
        Check.due("P34 61 of four", x.startBy(1, 4), 0);
        Check.due("P34 61 of six", x.startBy(1, 6), 2);
        Check.due("P34 31 of five", x.startBy(2, 5), 2);
        Check.due("P34 31 of three", x.startBy(2, 3), 1);
        Check.due("P34 60 of two", x.startBy(0, 2), -2);
        x.go(2);
        // now: 30, 10, 20, 30, ..; 50 of the told HOUR isn't come
        Check.due("P34 from now on", x.startBy(0, 3), 0);
        Check.due("P34 from now on in four", x.startBy(0, 4), 1);
        x.hiccup(0, 2);
        Check.due("P34 behind HICCUPS", x.startBy(0, 4), -2);
        Check.due("P34 behind HICCUPS in five", x.startBy(0, 5), 2);
        x.hiccup(0, 4);
        // one beat of r is left, 31 of q; without HICCUPS are 10, 20, 30
        Check.due("P34 behind more HICCUPS", x.startBy(2, 6), 5);
        Check.due("P34 30 are none for 31", x.startBy(1, 6), -2);
        Check.due("P34 the last two are", x.startBy(1, 7), 5);
        Check.due("P34 the HOURS of HICCUPS are no beats", x.startBy(0, 6), -2);
        Check.due("P34 all three are 60", x.startBy(0, 7), 4);
        // HICCUPS in the midst: a is free in HOUR 0, has them in 1 and 2, is free in 3
        x = Check.parish("man a 9 0;man b 9 0;tie a b;work p a 120 1 0;work q a 121 1 0;law hush 2;");
        x.hiccup(1, 1);
        Check.due("P34 HICCUPS in the midst", x.startBy(0, 4), 0);
        Check.due("P34 HICCUPS in the midst, one beat more", x.startBy(1, 4), -2);
        x = Check.parish("man a 9 0;work p a 120 1 0;spring 2;");
        Check.due("P34 while COIL is not 0", x.startBy(0, 9), 0);
        x = Check.parish("man a 9 0;work p a 121 1 0;spring 2;");
        Check.due("P34 COIL is 0 ahead of it", x.startBy(0, 9), -2);
        x = Check.parish("man a 9 0;work p a 120 1 0;wasp 50;speed 60;");
        Check.due("P34 with WASPS", x.startBy(0, 9), 8);
        x = Check.parish("man a 9 0;work p a 120 1 0;wasp 49;speed 60;");
        Check.due("P34 without WASPS", x.startBy(0, 9), 7);
        x.aunt(0, true);
        Check.due("P34 not HERE", x.startBy(0, 99), -2);
    }

    /** A WASP at 50 at least is a SPEED twice that, at less none; whatever the numbers are. */
    private static void eachAsItGoes() {
        String text = "man a 9 0;man b 15 0;tie a b;work p a 400 1 0;work q b 300 4 2;spring 300;law wear beat / 10;law hush beat / 10;"
            + "law slip hour / 2 * (beat - fast);";
        int[] wasps = {0, 1, 49, 50, 99, 100};
        for (int wasp : wasps) {
            for (int seed = 0; seed < 6; seed++) {
                int speed = wasp >= 50 ? 40 : 20;
                asItGoes(seed % 2, "as it goes, wasp " + wasp + ", seed " + seed,
                    Check.parish(text + "speed 20;wasp " + wasp + ";seed " + seed + ";"),
                    Check.parish(text + "speed " + speed + ";"), Check.parish(text + "speed 20;"));
            }
        }
    }

    private static void asItGoes(int hiccups, String what, BeatParish x, BeatParish y, BeatParish without) {
        int[] hours = {1, 2, 3, 4, 5, 8, 15, 99};
        x.hiccup(1, hiccups);
        y.hiccup(1, hiccups);
        without.hiccup(1, hiccups);
        for (int n : hours) {
            for (int one = 0; one < 2; one++) {
                Check.due(what + ", left of " + one + " in " + n, x.ahead(n, 0, one), y.ahead(n, 0, one));
                Check.due(what + ", SLIPS of " + one + " in " + n, x.ahead(n, 1, one), y.ahead(n, 1, one));
                Check.due(what + ", OFF of " + one + " in " + n, x.off(one, n, 0), y.off(one, n, 0));
                Check.due(what + ", OFF below of " + one + " in " + n, x.off(one, n, 1), y.off(one, n, 1));
                Check.due(what + ", first SLIP in " + n, x.firstSlip(n, one), y.firstSlip(n, one));
                Check.due(what + ", begin of " + one + " for " + n, x.startBy(one, n), y.startBy(one, n));
                Check.due(what + ", DONE of " + one, x.done(one), y.done(one));
            }
            Check.due(what + ", COIL in " + n, x.ahead(n, 2, 0), y.ahead(n, 2, 0));
            Check.due(what + ", DONE in " + n, x.ahead(n, 3, 0), y.ahead(n, 3, 0));
            Check.due(what + ", CROWD in " + n, x.crowd(n), y.crowd(n));
            for (int k = 1; k < 5; k++) {
                Check.due(what + ", TRIED " + k + " in " + n, x.tried(k, 0, n), y.tried(k, 0, n));
            }
            Check.due(what + ", TRIED 0 in " + n, x.tried(0, 0, n), without.tried(0, 0, n));
        }
        Check.due(what + ", STOPS", x.stops(), y.stops());
        Check.due(what + ", going on", x.goOn(), y.goOn());
    }

    /** Behind a TEXT with many those of an earlier one are none. */
    private static void fewerTold() {
        StringBuilder many = new StringBuilder("man a 9 9;man b 9 9;man c 9 9;man d 9 9;man e 9 9;man f 9 9;tie e f;");
        for (char work = 'p'; work < 'x'; work++) {
            many.append("work ").append(work).append(" f 90 5 0;");
        }
        BeatParish x = new BeatParish();
        for (int k = 0; k < 3; k++) {
            Check.tell(x, many.toString());
        }
        for (int k = 0; k < 2; k++) {
            Check.tell(x, "man a 9 9;man b 9 9;work p a 90 5 0;work q a 80 5 0;");
            for (int one = 2; one < 8; one++) {
                Check.due("P16 no WORK " + one, x.ahead(1, 0, one), -1);
                Check.due("P16 nobody " + one, x.ahead(1, 1, one), -1);
                Check.due("P17 no WORK " + one, x.done(one), -1);
                Check.due("P24 nobody " + one, x.off(one, 1, 1), -1);
                Check.due("P34 no WORK " + one, x.startBy(one, 9), -1);
                Check.due("P30 no WORK " + one + " behind", x.canon(0, one), -1);
                Check.due("P30 no WORK " + one + " ahead", x.canon(one, 0), -1);
                Check.due("P20 no WORK " + one, x.bars(1 << one), -1);
                Check.due("P25 nobody " + one, x.rests(one, 0), -1);
                Check.due("P26 nobody " + one, x.rest(0, one, 0), -1);
                Check.due("P22 nobody " + one, x.cut(one, 0), -1);
                Check.due("P27 nobody " + one, x.reaches(one), -1);
                Check.due("P8 nobody " + one, x.tie(one, 5), -1);
                Check.due("P6 nobody " + one, Check.man(x, one, 0), -100);
                Check.due("P7 no WORK " + one, x.work(one, 0), -1);
                Check.due("P36 no WORK " + one, x.see(1, one, 5, true), -1);
                Check.due("P40 no WORK " + one, x.chance(1, 1, one), -1);
                Check.due("P41 nobody " + one, x.tried(2, one, 1), -1);
                Check.due("P13 nobody " + one, x.hiccup(one, 1), false);
                Check.due("P14 nobody " + one, x.aunt(one, true), false);
                Check.due("P10 no WORK " + one, x.law(0, one), Long.MIN_VALUE);
                Check.due("P5 nobody " + one, x.named(0, (char) one + 1 << 25), -1);
                Check.due("P5 no WORK " + one, x.named(1, (char) one + 16 << 25), -1);
            }
            Check.due("P19 DONE of two", x.pace(2, 1), 2);
            Check.due("P23 of two", x.crowd(200), 3);
            Check.due("P29 of two", x.pack(90), 2);
            Check.due("P35 of two", x.idle(), 2);
            Check.due("P28 of two", x.slowest(), 0);
            Check.due("P31 of two", x.strange(0, 0), 3);
        }
    }

    private static void nothingTold() {
        BeatParish x = new BeatParish();
        for (int which : FAR) {
            Check.due("P16 no WORK " + which, x.ahead(1, 0, which), -1);
            Check.due("P17 no WORK " + which, x.done(which), -1);
            Check.due("P24 nobody " + which, x.off(which, 1, 0), -1);
            Check.due("P34 no WORK " + which, x.startBy(which, 1), -1);
        }
        Check.due("P16 no WORK 0", x.ahead(1, 0, 0), -1);
        Check.due("P16 nobody 0", x.ahead(1, 1, 0), -1);
        Check.due("P16 COIL of none", x.ahead(200, 2, 0), 0);
        Check.due("P16 DONE of none", x.ahead(200, 3, 0), 0);
        Check.due("P17 no WORK 0", x.done(0), -1);
        Check.due("P18 STOPS of none", x.stops(), 200);
        Check.due("P19 SPEED of none", x.pace(60, 0), 1);
        Check.due("P19 DONE of none", x.pace(60, 1), 0);
        Check.due("P19 SLIPS of none", x.pace(60, 2), 0);
        Check.due("P23 of none", x.crowd(200), 0);
        Check.due("P24 nobody 0", x.off(0, 1, 0), -1);
        Check.due("P32 of none", x.firstSlip(200, 0), -2);
        Check.due("P32 of nobody", x.firstSlip(200, 1), -2);
        Check.due("P34 no WORK 0", x.startBy(0, 1), -1);
    }

    /** Asking what comes lets no HOUR go by. */
    private static void nothingChanged() {
        String text = "man a 9 50;man b 30 90;tie a b;work p a 500 1 0;work q b 400 5 2;wasp 45;seed 8;law slip beat - fast;";
        BeatParish x = Check.parish(text);
        BeatParish y = Check.parish(text);
        x.hiccup(0, 2);
        y.hiccup(0, 2);
        for (int round = 0; round < 6; round++) {
            x.ahead(200, 0, 0);
            x.done(1);
            x.stops();
            x.pace(60, 0);
            x.crowd(99);
            x.off(1, 50, 1);
            x.firstSlip(200, 1);
            x.goOn();
            x.startBy(1, 99);
            x.beat();
            x.law(0, 0);
            x.chance(5, 99, 1);
            x.tried(2, 1, 99);
            x.shifts();
            for (int what = 0; what < 14; what++) {
                Check.due("asking changes no count(" + what + ")", x.count(what), y.count(what));
            }
            for (int one = 0; one < 2; one++) {
                for (int what = 0; what < 6; what++) {
                    Check.due("asking changes no man(" + one + ", " + what + ")", Check.man(x, one, what), Check.man(y, one, what));
                    Check.due("asking changes no work(" + one + ", " + what + ")", x.work(one, what), y.work(one, what));
                }
            }
            x.go(1);
            y.go(1);
        }
    }
}
