/** Behind '==== 2.' and promises 6 to 15: what is put between two limits, and both sides of each. */
final class EdgeHoursTest {
    private static final long ERROR = Long.MIN_VALUE;
    private static final int MIN = Integer.MIN_VALUE;
    private static final int MAX = Integer.MAX_VALUE;

    private EdgeHoursTest() {
    }

    public static void main(String[] args) {
        beatBetween();
        beatWithWasp();
        waspByNumber();
        numbersWhole();
        asItGoes();
        begun();
        notBeyondItsEnd();
        slipsWithout();
        slipsBetween();
        hindered();
        hushWithout();
        hushBetween();
        hiccupsAsTheyWere();
        hiccupsOfWhom();
        hushAheadOfWear();
        wearBetween();
        wearOfNobody();
        names();
        values();
        errors();
        overflow();
        deep();
        askedOfPeople();
        askedOfWorks();
        askedOfTies();
        askedOfLaws();
        shifted();
        wound();
        hiccupped();
        sentAway();
        went();
        Check.end();
    }

    /** BEAT: 0, if COIL is 0; else SPEED and the SHIFT, 1 .. 199. */
    private static void beatBetween() {
        int[][] due = {{60, 0, 60}, {60, -59, 1}, {60, -60, 1}, {60, -99, 1}, {1, -99, 1}, {1, 0, 1}, {1, 1, 2}, {100, 98, 198},
            {100, 99, 199}, {101, 99, 199}, {199, 0, 199}, {199, 1, 199}, {199, 99, 199}, {199, -1, 198}, {199, -99, 100},
            {99, -98, 1}, {100, -98, 2}};
        for (int[] one : due) {
            BeatParish x = Check.parish("speed " + one[0] + ";spring 1;wasp 100;");
            x.shift(one[1]);
            Check.due("P9 SPEED " + one[0] + " and SHIFT " + one[1], x.beat(), one[2]);
            BeatParish y = Check.parish("man a 1 1;work p a 999 1 0;speed " + one[0] + ";spring 1;");
            y.shift(one[1]);
            y.go(2);
            Check.due("P15 SPEED " + one[0] + " and SHIFT " + one[1], y.work(0, 4), 999 - one[2]);
            Check.due("P9 COIL 0, SHIFT " + one[1], y.beat(), 0);
            y.wind(1);
            Check.due("P9 COIL 1 again, SHIFT " + one[1], y.beat(), one[2]);
        }
        Check.due("SHIFT 0 at first", new BeatParish().count(6), 0);
    }

    /** Twice that, 199 at most, if a WASP is in. */
    private static void beatWithWasp() {
        int[][] due = {{1, 0, 2}, {99, 0, 198}, {100, 0, 199}, {101, 0, 199}, {199, 0, 199}, {60, -99, 2}, {199, 99, 199},
            {100, -1, 198}, {99, 1, 199}};
        for (int[] one : due) {
            BeatParish x = Check.parish("man a 1 1;work p a 999 1 0;wasp 100;speed " + one[0] + ";");
            x.shift(one[1]);
            Check.due("P16 a WASP, SPEED " + one[0] + " and SHIFT " + one[1], x.ahead(1, 0, 0), 999 - one[2]);
            x.go(1);
            Check.due("P15 a WASP, SPEED " + one[0] + " and SHIFT " + one[1], x.work(0, 4), 999 - one[2]);
        }
        BeatParish x = Check.parish("man a 1 1;work p a 999 1 0;wasp 100;spring 0;");
        x.go(3);
        Check.due("P15 no COIL, no WASP", x.work(0, 4), 999);
    }

    private static long next(long number) {
        return (number * 1103515245L + 12345L) % (1L << 31);
    }

    /** A WASP is in, if a number modulo 100 is below wasp. */
    private static void waspByNumber() {
        boolean[] seen = new boolean[100];
        for (int seed = 0; seed <= 99999; seed += seed < 700 ? 1 : 9929) {
            int odds = (int) (next(seed) / 65536 % 100);
            if (!seen[odds] || seed > 700) {
                seen[odds] = true;
                for (int wasp = Math.max(0, odds - 1); wasp <= Math.min(100, odds + 2); wasp++) {
                    BeatParish x = Check.parish("man a 1 1;work p a 99 1 0;speed 20;wasp " + wasp + ";seed " + seed + ";");
                    x.go(1);
                    Check.due("P15 " + odds + " of seed " + seed + ", wasp " + wasp, x.work(0, 4), odds < wasp ? 59 : 79);
                }
            }
        }
        for (int odds = 0; odds < 100; odds++) {
            Check.due("P15 a seed of " + odds + " was tried", seen[odds], true);
        }
    }

    /** The last one, whole, without what is above 31 bits, is the next one. */
    private static void numbersWhole() {
        int[] seeds = {0, 1, 99998, 99999};
        for (int seed : seeds) {
            BeatParish x = Check.parish("man a 1 1;work p a 999 1 0;speed 1;spring 999;wasp 50;seed " + seed + ";");
            long number = seed;
            int left = 999;
            for (int hour = 0; hour < 200; hour++) {
                number = next(number);
                left -= number / 65536 % 100 < 50 ? 2 : 1;
                x.go(1);
                Check.due("P15 seed " + seed + ", HOUR " + hour, x.work(0, 4), left);
            }
        }
    }

    /** AS IT GOES: without numbers: a WASP is in, if wasp is 50 at least. */
    private static void asItGoes() {
        int[] wasps = {0, 1, 49, 50, 51, 99, 100};
        for (int wasp : wasps) {
            BeatParish x = Check.parish("man a 9 1;work p a 999 1 0;speed 20;seed 4;wasp " + wasp + ";");
            int beat = wasp >= 50 ? 40 : 20;
            for (int n = 0; n < 9; n++) {
                Check.due("as it goes, wasp " + wasp + ", n " + n, x.ahead(n, 0, 0), 999 - n * beat);
            }
            Check.due("as it goes, wasp " + wasp + ", DONE", x.done(0), (999 + beat - 1) / beat);
            Check.due("as it goes, wasp " + wasp + ", no WASPS", x.tried(0, 0, 1), 1);
            Check.due("as it goes, wasp " + wasp + ", SLIPS", x.tried(1, 0, 1), (beat - 9) / 10);
        }
    }

    /** Each WORK that has begun. */
    private static void begun() {
        int[] begins = {0, 1, 2, 50, 98, 99};
        for (int begin : begins) {
            BeatParish x = Check.parish("man a 199 1;work p a 500 1 " + begin + ";speed 7;");
            for (int k = 0; k < 3; k++) {
                Check.due("P16 from " + begin + " on", x.ahead(begin + k, 0, 0), 500 - 7 * k);
            }
            Check.due("P33 at 0, from " + begin + " on", x.goOn(), begin == 0 ? 1 : 0);
            x.go(Math.max(0, begin - 1));
            Check.due("P33 ahead of " + begin, x.goOn(), begin == 0 ? 1 : 0);
            x.go(begin == 0 ? 0 : 1);
            Check.due("P15 not ahead of " + begin, x.work(0, 4), 500);
            Check.due("P33 at " + begin, x.goOn(), 1);
            x.go(1);
            Check.due("P15 in " + begin, x.work(0, 4), 493);
        }
    }

    /** Not beyond its end: it is DONE, if nothing is left. */
    private static void notBeyondItsEnd() {
        int[][] due = {{59, 0}, {60, 0}, {61, 1}, {1, 0}, {119, 59}, {120, 60}, {999, 939}};
        for (int[] one : due) {
            BeatParish x = Check.parish("man a 199 1;work p a " + one[0] + " 1 0;");
            boolean done = one[1] == 0;
            Check.due("P7 not yet, of " + one[0], x.work(0, 5), -1);
            Check.due("P16 left of " + one[0], x.ahead(1, 0, 0), one[1]);
            Check.due("P16 DONE of " + one[0], x.ahead(1, 3, 0), done ? 1 : 0);
            Check.due("P23 DONE of " + one[0], x.crowd(1), done ? 1 : 0);
            x.go(1);
            Check.due("P15 left of " + one[0], x.work(0, 4), one[1]);
            Check.due("P15 in which HOUR, of " + one[0], x.work(0, 5), done ? 0 : -1);
            Check.due("P45 DONE of " + one[0], x.count(7), done ? 1 : 0);
            Check.due("P6 DONE of " + one[0], Check.man(x, 0, 5), done ? 1 : 0);
            Check.due("P17 DONE of " + one[0], x.done(0), (one[1] + 59) / 60);
            x.go(3);
            Check.due("P15 the HOUR stays, of " + one[0], x.work(0, 5), one[0] > 240 ? -1 : (one[0] - 1) / 60);
        }
    }

    /** By 10, cut, how far BEAT is above FAST, 0 at least, without. */
    private static void slipsWithout() {
        int[][] due = {{60, 60, 0}, {60, 61, 0}, {60, 69, 0}, {60, 70, 1}, {60, 79, 1}, {60, 80, 2}, {60, 59, 0}, {60, 50, 0},
            {60, 49, 0}, {60, 40, 0}, {199, 1, 0}, {1, 199, 19}, {1, 191, 19}, {1, 190, 18}, {1, 11, 1}, {1, 10, 0}};
        String[] laws = {"", "law slip 1 / 0;", "law slip 1 / (beat - beat);"};
        for (int[] one : due) {
            for (String law : laws) {
                BeatParish x = Check.parish("man a " + one[0] + " 1;work p a 999 1 0;speed " + one[1] + ";" + law);
                x.go(1);
                Check.due("P15 FAST " + one[0] + ", BEAT " + one[1] + " " + law, Check.man(x, 0, 2), one[2]);
                Check.due("P45 FAST " + one[0] + ", BEAT " + one[1] + " " + law, x.count(8), one[2]);
            }
        }
        BeatParish x = Check.parish("man a 1 1;work p a 999 1 0;work q a 1 1 0;work r a 5 1 1;speed 99;wasp 100;");
        x.go(1);
        Check.due("P15 by the BEAT with a WASP, for each WORK", Check.man(x, 0, 2), 2 * 19);
        x.go(1);
        Check.due("P15 not for one that is DONE", Check.man(x, 0, 2), 4 * 19);
    }

    /** SLIPS are more by E of slip (put to 0 .. 99). */
    private static void slipsBetween() {
        String[] es = {"0 - 1", "0 - 9999 * 9999 * 9999", "0", "1", "98", "99", "100", "9999 * 9999 * 9999", "1000 * 1000 * 1000 * 1000",
            "1000 * 1000 * 1000 * 1000 + 1", "0 - 1000 * 1000 * 1000 * 1000", "0 - 1 - 1000 * 1000 * 1000 * 1000"};
        int[] due = {0, 0, 0, 1, 98, 99, 99, 99, 99, 4, 0, 4};
        for (int k = 0; k < es.length; k++) {
            BeatParish x = Check.parish("man a 20 1;work p a 999 1 0;law slip " + es[k] + ";");
            Check.due("P16 SLIPS by " + es[k], x.ahead(1, 1, 0), due[k]);
            x.go(1);
            Check.due("P15 SLIPS by " + es[k], Check.man(x, 0, 2), due[k]);
            x.go(1);
            Check.due("P15 SLIPS twice by " + es[k], Check.man(x, 0, 2), 2 * due[k]);
            boolean error = k == 9 || k == 11;
            Check.due("P10 an ERROR by " + es[k], x.law(0, 0) == ERROR, error);
        }
    }

    /** Whose PERSON is HERE and has no HICCUPS. */
    private static void hindered() {
        for (int hours = 0; hours <= 9; hours++) {
            BeatParish x = Check.parish("man a 20 1;man b 20 1;work p a 999 1 0;work q b 999 1 0;");
            x.hiccup(0, hours);
            for (int hour = 0; hour < 11; hour++) {
                Check.due("P33 HICCUPS of " + hours + ", HOUR " + hour, x.goOn(), hour < hours ? 2 : 3);
                x.go(1);
                Check.due("P15 HICCUPS of " + hours + ", HOUR " + hour, x.work(0, 4), 999 - 60 * Math.max(0, hour + 1 - hours));
                Check.due("P6 HICCUPS of " + hours + ", HOUR " + hour, Check.man(x, 0, 3), Math.max(0, hours - hour - 1));
                Check.due("P45 HICCUPS of " + hours + ", HOUR " + hour, x.count(9), hours > hour + 1 ? 1 : 0);
                Check.due("P15 another one, HOUR " + hour, x.work(1, 4), 999 - 60 * (hour + 1));
            }
        }
        BeatParish x = Check.parish("man a 20 1;man b 20 1;work p a 999 1 0;work q b 999 1 0;");
        x.aunt(0, true);
        x.go(2);
        x.aunt(0, false);
        x.go(1);
        Check.due("P15 at the aunt's", x.work(0, 4), 939);
        Check.due("P15 no SLIPS at the aunt's", Check.man(x, 0, 2), 4);
        Check.due("P15 another one", x.work(1, 4), 819);
    }

    /** 1 and AGED by 20, cut, without. */
    private static void hushWithout() {
        int[][] due = {{0, 1}, {1, 1}, {19, 1}, {20, 2}, {39, 2}, {40, 3}, {59, 3}, {60, 4}, {79, 4}, {80, 5}, {99, 5}};
        String[] laws = {"", "law hush 1 / 0;", "law hush 9 / left;"};
        for (int[] one : due) {
            for (String law : laws) {
                BeatParish x = Check.parish("man a 9 50;man b 9 " + one[0] + ";tie a b;" + law);
                x.hiccup(0, 1);
                x.go(1);
                Check.due("P15 HICCUPS of AGED " + one[0] + " " + law, Check.man(x, 1, 3), one[1]);
            }
        }
    }

    /** For E of hush HOURS (1 .. 9). */
    private static void hushBetween() {
        String[] es = {"0 - 1", "0", "1", "2", "8", "9", "10", "9999 * 9999 * 9999", "0 - 9999 * 9999 * 9999",
            "1000 * 1000 * 1000 * 1000 + 1"};
        int[] due = {1, 1, 1, 2, 8, 9, 9, 9, 1, 5};
        for (int k = 0; k < es.length; k++) {
            BeatParish x = Check.parish("man a 9 0;man b 9 99;tie a b;law hush " + es[k] + ";");
            x.hiccup(0, 1);
            x.go(1);
            Check.due("P15 HICCUPS by " + es[k], Check.man(x, 1, 3), due[k]);
            Check.due("P15 of who gave them", Check.man(x, 0, 3), 0);
        }
    }

    /** Each who has them (as it was ahead of (3)) gives them to all TIED who are HERE and have none. */
    private static void hiccupsAsTheyWere() {
        for (int turn = 0; turn < 2; turn++) {
            int one = turn;
            int other = 1 - turn;
            BeatParish x = Check.parish("man a 9 20;man b 9 20;tie a b;");
            x.hiccup(one, 1);
            x.hiccup(other, 1);
            x.go(1);
            Check.due("P15 the last HOUR of both, one", Check.man(x, one, 3), 0);
            Check.due("P15 the last HOUR of both, the other", Check.man(x, other, 3), 0);
            x.hiccup(one, 1);
            x.hiccup(other, 2);
            x.go(1);
            Check.due("P15 none in the HOUR in which they end", Check.man(x, one, 3), 0);
            Check.due("P15 one HOUR less", Check.man(x, other, 3), 1);
            x.go(1);
            Check.due("P15 the HOUR behind it", Check.man(x, one, 3), 2);
            Check.due("P15 the last one given", Check.man(x, other, 3), 0);
        }
        // a row: one TIE an HOUR, either way along the numbers
        for (int turn = 0; turn < 2; turn++) {
            BeatParish x = Check.parish("man a 9 99;man b 9 99;man c 9 99;man d 9 99;man e 9 99;man f 9 99;tie a b;tie b c;tie c d;"
                + "tie d e;tie e f;");
            x.hiccup(turn == 0 ? 0 : 5, 9);
            for (int hour = 1; hour <= 5; hour++) {
                x.go(1);
                Check.due("P15 a row behind " + hour, x.count(9), hour + 1);
                int last = turn == 0 ? hour : 5 - hour;
                Check.due("P15 the last of a row behind " + hour, Check.man(x, last, 3), 5);
            }
        }
        BeatParish x = Check.parish("man a 9 0;man b 9 50;man c 9 0;tie a b;tie b c;");
        x.hiccup(0, 5);
        x.hiccup(2, 5);
        x.go(1);
        Check.due("P15 of two, once", Check.man(x, 1, 3), 3);
        x.go(1);
        Check.due("P15 who has them gets none", Check.man(x, 1, 3), 2);
    }

    private static void hiccupsOfWhom() {
        BeatParish x = Check.parish("man a 9 0;man b 9 0;man c 9 0;man d 9 0;tie a b;tie a c;law hush 5;");
        x.aunt(2, true);
        x.hiccup(0, 3);
        x.go(1);
        Check.due("P15 TIED and HERE", Check.man(x, 1, 3), 5);
        Check.due("P15 not HERE", Check.man(x, 2, 3), 0);
        Check.due("P15 not TIED", Check.man(x, 3, 3), 0);
        x.aunt(2, false);
        x.go(1);
        Check.due("P15 HERE again", Check.man(x, 2, 3), 5);
        x = Check.parish("man a 9 0;man b 9 0;tie a b;");
        x.go(20);
        Check.due("P15 nobody has any", x.count(9), 0);
        x = Check.parish("man a 9 0;man b 9 0;tie a b;spring 0;law hush 4 + beat;");
        x.hiccup(0, 3);
        x.go(1);
        Check.due("P15 with BEAT 0, too", Check.man(x, 1, 3), 4);
        Check.due("P15 one HOUR less with BEAT 0, too", Check.man(x, 0, 3), 2);
    }

    /** (3) goes ahead of (4): COIL of hush is as it was in (2), and so is the HOUR. */
    private static void hushAheadOfWear() {
        BeatParish x = Check.parish("man a 9 0;man b 9 0;man c 9 0;tie a b;tie a c;work p c 999 1 0;spring 9;law wear 4;"
            + "law hush coil;law slip coil;");
        x.hiccup(0, 9);
        Check.due("P10 hush by COIL", x.law(2, 1), 9);
        x.go(1);
        Check.due("P15 HICCUPS by COIL ahead of wear", Check.man(x, 1, 3), 9);
        Check.due("P15 SLIPS by COIL ahead of wear", Check.man(x, 2, 2), 9);
        Check.due("P45 COIL behind it", x.count(5), 5);
        x = Check.parish("man a 9 0;man b 9 0;tie a b;spring 4;law wear 4;law hush coil + 10 * (beat = 0);");
        x.hiccup(0, 9);
        x.go(1);
        Check.due("P15 HICCUPS by the last COIL", Check.man(x, 1, 3), 4);
        Check.due("P45 COIL 0 behind it", x.count(5), 0);
        x = Check.parish("man a 9 0;man b 9 0;tie a b;law hush 5 + hour;law wear hour;");
        x.go(2);
        x.hiccup(0, 9);
        x.go(1);
        Check.due("P15 HICCUPS by this HOUR", Check.man(x, 1, 3), 7);
        Check.due("P45 COIL by the HOURS 0, 1, 2", x.count(5), 197);
    }

    /** NAMES of wear: those of a PERSON and a WORK are 0, whoever slipped or got HICCUPS in (2) and (3). */
    private static void wearOfNobody() {
        String[] es = {"7 + 90 * fast + 90 * aged", "7 + 90 * left + 90 * bar", "7 + fast + aged + left + bar"};
        for (String e : es) {
            BeatParish x = Check.parish("man a 9 30;man b 8 40;man c 7 50;tie a b;work p c 999 12 0;law wear " + e + ";");
            x.hiccup(0, 9);
            Check.due("P16 COIL by " + e, x.ahead(1, 2, 0), 193);
            x.go(1);
            Check.due("P15 HICCUPS were given, " + e, Check.man(x, 1, 3), 3);
            Check.due("P15 a WORK went on, " + e, x.work(0, 4), 939);
            Check.due("P15 COIL by " + e, x.count(5), 193);
        }
    }

    /** COIL is less by E of wear (put to 0 .. 99; 1 without, with an ERROR), 0 at least. */
    private static void wearBetween() {
        String[] es = {"0 - 1", "0", "1", "98", "99", "100", "9999 * 9999 * 9999", "0 - 9999 * 9999 * 9999", "1 / 0", "1 / fast",
            "1000 * 1000 * 1000 * 1000 + 1"};
        int[] due = {0, 0, 1, 98, 99, 99, 99, 0, 1, 1, 1};
        int[] springs = {0, 1, 98, 99, 100, 999};
        for (int k = 0; k < es.length; k++) {
            for (int spring : springs) {
                BeatParish x = Check.parish("law wear " + es[k] + ";spring " + spring + ";");
                Check.due("P16 COIL " + spring + " by " + es[k], x.ahead(1, 2, 0), Math.max(0, spring - due[k]));
                x.go(1);
                Check.due("P15 COIL " + spring + " by " + es[k], x.count(5), Math.max(0, spring - due[k]));
                x.go(1);
                Check.due("P15 COIL " + spring + " twice by " + es[k], x.count(5), Math.max(0, spring - 2 * due[k]));
            }
        }
        BeatParish x = Check.parish("spring 3;");
        x.go(1);
        Check.due("P15 COIL without", x.count(5), 2);
        x.go(99);
        Check.due("P15 COIL 0 at least without", x.count(5), 0);
    }

    /** NAMES: of the PERSON, of the WORK, else 0. */
    private static void names() {
        String people = "man a 9 7;man b 30 50;work p b 90 6 0;work q a 300 5 0;tie a b;speed 40;speed 30;spring 88;";
        // of slip: BEAT, FAST, AGED, left ahead of going on, BAR, COIL ahead of the wear, HOUR
        String[] names = {"beat", "fast", "aged", "left", "bar", "coil", "hour"};
        int[][] slip = {{40, 30}, {30, 30}, {50, 50}, {90, 50}, {6, 6}, {88, 85}, {0, 1}};
        int[] hush = {4, 3, 5, 1, 1, 8, 1};
        int[] wear = {40, 0, 0, 0, 0, 88, 0};
        for (int k = 0; k < names.length; k++) {
            BeatParish x = Check.parish(people + "law slip " + names[k] + ";law wear 3;law hush hour * 0 + " + names[k] + " / 10;");
            Check.due("P10 " + names[k] + " of slip", x.law(0, 0), slip[k][0]);
            Check.due("P10 " + names[k] + " of hush", x.law(2, 1), k == 3 || k == 4 || k == 6 ? 0 : hush[k]);
            x.hiccup(0, 1);
            x.go(1);
            Check.due("P15 " + names[k] + " of slip", Check.man(x, 1, 2), slip[k][0]);
            Check.due("P15 " + names[k] + " of hush", Check.man(x, 1, 3), hush[k]);
            x.hiccup(1, 0);
            x.go(1);
            Check.due("P15 " + names[k] + " of slip in HOUR 1", Check.man(x, 1, 2), slip[k][0] + slip[k][1]);
            BeatParish y = Check.parish(people + "law wear " + names[k] + ";");
            Check.due("P10 " + names[k] + " of wear", y.law(1, 1), wear[k]);
            y.go(1);
            Check.due("P15 " + names[k] + " of wear", y.count(5), 88 - wear[k]);
        }
        BeatParish x = Check.parish("man a 9 0;man b 9 0;tie a b;work p a 99 1 0;work q b 99 1 0;speed 4;wasp 100;law slip beat;"
            + "law wear beat;law hush beat;");
        x.hiccup(1, 1);
        x.go(1);
        Check.due("P15 beat of slip with a WASP", Check.man(x, 0, 2), 8);
        Check.due("P15 beat of wear with a WASP", x.count(5), 192);
        Check.due("P15 beat of hush with a WASP", Check.man(x, 0, 3), 8);
        for (int what = 0; what < 3; what++) {
            Check.due("P10 beat without WASPS, " + what, x.law(what, 0), 4);
        }
        x = Check.parish("man a 9 0;work p a 99 1 0;spring 1;law slip beat * 100 + coil;law wear 7 + beat;law hush beat + 2;");
        x.go(1);
        Check.due("P10 beat of slip with COIL 0", x.law(0, 0), 0);
        Check.due("P10 beat of wear with COIL 0", x.law(1, 0), 7);
        Check.due("P10 beat of hush with COIL 0", x.law(2, 0), 2);
    }

    /** Comparisons, and, or, not are 1 or 0; / is cut towards 0. */
    private static void values() {
        int[][] pairs = {{0, 0}, {0, 1}, {1, 0}, {1, 1}, {7, 7}, {7, 8}, {8, 7}, {9999, 9999}, {9998, 9999}, {7, 2}, {1, 9999},
            {9999, 1}, {2, 3}, {0, 5}};
        for (int[] one : pairs) {
            for (int signs = 0; signs < 4; signs++) {
                int a = (signs & 1) == 0 ? one[0] : -one[0];
                int b = (signs & 2) == 0 ? one[1] : -one[1];
                both(a, "<", b, a < b ? 1 : 0);
                both(a, "<=", b, a <= b ? 1 : 0);
                both(a, "=", b, a == b ? 1 : 0);
                both(a, "<>", b, a != b ? 1 : 0);
                both(a, ">=", b, a >= b ? 1 : 0);
                both(a, ">", b, a > b ? 1 : 0);
                both(a, "and", b, a != 0 && b != 0 ? 1 : 0);
                both(a, "or", b, a != 0 || b != 0 ? 1 : 0);
                both(a, "+", b, a + b);
                both(a, "-", b, a - b);
                both(a, "*", b, (long) a * b);
                both(a, "/", b, b == 0 ? ERROR : a / b);
            }
        }
        value("not 0", 1);
        value("not 1", 0);
        value("not 9999", 0);
        value("not (0 - 1)", 0);
        value("not not 9999", 1);
        value("not not not 9999", 0);
        value("not 1 or 1", 1);
        value("not (1 or 1)", 0);
        value("not 1 < 2", 0);
        value("not 5 + 1", 0);
        value("1 or 1 and 0", 1);
        value("0 and 1 or 1", 1);
        value("2 + 3 * 4 - 6 / 2", 11);
        value("1 + 1 < 3 and 3 * 2 >= 6", 1);
        value("100 - 10 - 1", 89);
        value("100 / 10 / 2", 5);
        value("100 / 10 * 2", 20);
        value("2 * 9 / 4", 4);
        value("(1 < 2) + (3 > 2) + (not 0)", 3);
    }

    private static void both(int a, String sign, int b, long due) {
        String one = a < 0 ? "(0 - " + -a + ")" : "" + a;
        String other = b < 0 ? "(0 - " + -b + ")" : "" + b;
        value(one + " " + sign + " " + other, due);
    }

    private static void value(String e, long due) {
        Check.due("P10 " + e, Check.holds("law wear " + e + ";", 1).law(1, 0), due);
    }

    /** / by 0, a value above 10 to the 12 or below 0 by more than that, of any part. */
    private static void errors() {
        long most = 1000000000000L;
        String million = "1000 * 1000";
        String top = "(" + million + " * 1000 * 1000)";
        String low = "(0 - " + top + ")";
        value(top, most);
        value(low, -most);
        value(top + " + 0", most);
        value(top + " + 1", ERROR);
        value("1 + " + top, ERROR);
        value(top + " - 1", most - 1);
        value(top + " - (0 - 1)", ERROR);
        value(low + " - 0", -most);
        value(low + " - 1", ERROR);
        value(low + " + 1", 1 - most);
        value(low + " + (0 - 1)", ERROR);
        value("0 - 1 - " + top, ERROR);
        value(top + " * 1", most);
        value(top + " * 2", ERROR);
        value("2 * " + top, ERROR);
        value(top + " * (0 - 1)", -most);
        value(top + " * (0 - 2)", ERROR);
        value(low + " * (0 - 1)", most);
        value(low + " * 2", ERROR);
        value(top + " * 0", 0);
        value("0 * " + low, 0);
        value("(" + million + ") * (" + million + ")", most);
        value("(" + million + " + 1) * (" + million + ")", ERROR);
        value("(" + million + ") * (" + million + " + 1)", ERROR);
        value("(0 - " + million + ") * (" + million + ")", -most);
        value("(0 - " + million + " - 1) * (" + million + ")", ERROR);
        value("(" + million + " + 1) * (" + million + " - 1)", most - 1);
        value(top + " / 1", most);
        value(top + " / " + top, 1);
        value("9999 / " + top, 0);
        value("(" + top + " + 1) / 2", ERROR);
        value("(" + top + " + 1) - 1", ERROR);
        value("0 * (" + top + " + 1)", ERROR);
        String[] none = {"(1 / 0)", "(0 / 0)", "(" + top + " + 1)", "(1 / (5 - 5))", "((0 - 1) / 0)"};
        String[] signs = {"or", "and", "<", "<=", "=", "<>", ">=", ">", "+", "-", "*", "/"};
        for (String one : none) {
            for (String sign : signs) {
                value("1 " + sign + " " + one, ERROR);
                value("0 " + sign + " " + one, ERROR);
                value(one + " " + sign + " 0", ERROR);
                value(one + " " + sign + " 1", ERROR);
            }
            value("not " + one, ERROR);
            value("not not " + one, ERROR);
        }
        // an ERROR of one law is none of another
        BeatParish x = Check.parish("man a 9 0;work p a 99 1 0;law slip 1 / 0;law wear 3 + 4;law hush 1 - 1 / 0;");
        Check.due("P10 ERROR of slip", x.law(0, 0), ERROR);
        Check.due("P10 wear behind it", x.law(1, 0), 7);
        Check.due("P10 ERROR of hush", x.law(2, 0), ERROR);
        x = Check.parish("man a 9 0;work p a 99 1 0;law hush 5;law wear 1 / 0;law slip 6;");
        Check.due("P10 slip, told last", x.law(0, 0), 6);
        Check.due("P10 ERROR of wear", x.law(1, 0), ERROR);
        Check.due("P10 hush, told first", x.law(2, 0), 5);
    }

    /** Beyond a long a value is beyond 10 to the 12, too. */
    private static void overflow() {
        for (int one = 25; one <= 39; one++) {
            for (int other = 64 - one; other <= 39; other++) {
                value("(" + power(one) + ") * (" + power(other) + ")", ERROR);
                value("(0 - " + power(one) + ") * (" + power(other) + ")", ERROR);
                value("(0 - " + power(one) + ") * (0 - " + power(other) + ")", ERROR);
                value("(" + power(one) + " + 1) * (" + power(other) + ") < 0", ERROR);
            }
        }
        value(power(39), 1L << 39);
        value(power(39) + " * 2", ERROR);
        value("(" + power(20) + ") * (" + power(19) + ")", 1L << 39);
        value("(" + power(20) + ") * (" + power(20) + ")", ERROR);
    }

    private static String power(int of2) {
        return "4096 * ".repeat(of2 / 12) + (1 << of2 % 12);
    }

    /** As deep as 8 '(' and 64 KNOTS go. */
    private static void deep() {
        value("1 + 2 * (".repeat(8) + "5" + ")".repeat(8), 256 * 5 + 255);
        value("9999 - 2 * (".repeat(8) + "0" + ")".repeat(8), -849915);
        // 31 values at once
        value("0 or 1 and 1 < 1 + 1 * (".repeat(6) + "1" + ")".repeat(6), 1);
        value("0 or 1 and 1 < 0 + 1 * (".repeat(6) + "9" + ")".repeat(6), 0);
        value("0 or 1 and 0 < 0 + 1 * (".repeat(6) + "9" + ")".repeat(6), 1);
        value("0 or 1 and 0 < 0 + 1 * (".repeat(6) + "0" + ")".repeat(6), 0);
        value("0 or 1 and 0 <= 0 - 1 * (".repeat(6) + "1 / 0" + ")".repeat(6), ERROR);
    }

    private static void askedOfPeople() {
        BeatParish x = Check.parish("man a 60 20;man b 45 0;work p b 50 3 0;work q a 20 12 0;work r b 60 1 0;work s b 999 1 0;");
        int[] none = {-1, 2, 6, MAX, MIN};
        int[] whats = {-1, 0, 5, 6, MAX, MIN};
        for (int man : none) {
            for (int what : whats) {
                Check.due("P6 man(" + man + ", " + what + ")", Check.man(x, man, what), -100);
            }
        }
        int[] others = {-1, 6, 7, MAX, MIN};
        for (int what : others) {
            Check.due("P6 man(0, " + what + ")", Check.man(x, 0, what), -200);
            Check.due("P6 man(1, " + what + ")", Check.man(x, 1, what), -200);
        }
        Check.due("P6 nobody is told", Check.man(new BeatParish(), 0, 0), -100);
        x.go(1);
        Check.due("P6 DONE of a", Check.man(x, 0, 5), 1);
        Check.due("P6 DONE of b, the first WORK, too", Check.man(x, 1, 5), 2);
        Check.due("P6 SLIPS of b", Check.man(x, 1, 2), 3);
        Check.due("P6 SLIPS of a", Check.man(x, 0, 2), 0);
        Check.due("P6 HERE", Check.man(x, 1, 4), 1);
        x.aunt(1, true);
        Check.due("P6 not HERE", Check.man(x, 1, 4), 0);
        Check.due("P6 the other one is", Check.man(x, 0, 4), 1);
        Check.due("P6 FAST of one who isn't HERE", Check.man(x, 1, 0), 45);
        Check.due("P6 DONE of one who isn't HERE", Check.man(x, 1, 5), 2);
        Check.due("P6 SLIPS of one who isn't HERE", Check.man(x, 1, 2), 3);
    }

    private static void askedOfWorks() {
        BeatParish x = Check.parish("man a 60 20;man b 45 0;work p b 50 3 7;work q a 130 12 0;");
        int[][] due = {{1, 50, 3, 7, 50, -1}, {0, 130, 12, 0, 130, -1}};
        for (int work = 0; work < 2; work++) {
            for (int what = 0; what < 6; what++) {
                Check.due("P7 work(" + work + ", " + what + ")", x.work(work, what), due[work][what]);
            }
            int[] others = {-1, 6, 7, MAX, MIN};
            for (int what : others) {
                Check.due("P7 work(" + work + ", " + what + ")", x.work(work, what), -1);
            }
        }
        int[] none = {-1, 2, 8, MAX, MIN};
        for (int work : none) {
            for (int what = -1; what < 7; what++) {
                Check.due("P7 work(" + work + ", " + what + ")", x.work(work, what), -1);
            }
        }
        Check.due("P7 no WORK is told", new BeatParish().work(0, 0), -1);
        x.go(8);
        Check.due("P7 BEATS as told", x.work(0, 1), 50);
        Check.due("P7 nothing is left", x.work(0, 4), 0);
        Check.due("P7 in HOUR 7", x.work(0, 5), 7);
        Check.due("P7 in HOUR 2", x.work(1, 5), 2);
        x.go(5);
        Check.due("P7 in HOUR 7 still", x.work(0, 5), 7);
    }

    private static void askedOfTies() {
        BeatParish x = Check.parish("man a 60 20;man b 45 0;man c 1 1;tie c a;");
        int[] none = {-1, 3, 6, MAX, MIN};
        for (int man : none) {
            for (int other = 0; other < 3; other++) {
                Check.due("P8 tie(" + man + ", " + other + ")", x.tie(man, other), -1);
                Check.due("P8 tie(" + other + ", " + man + ")", x.tie(other, man), -1);
            }
            Check.due("P8 tie(" + man + ", " + man + ")", x.tie(man, man), -1);
        }
        for (int one = 0; one < 3; one++) {
            for (int other = 0; other < 3; other++) {
                Check.due("P8 tie(" + one + ", " + other + ")", x.tie(one, other), one + other == 2 && one != other ? 1 : 0);
            }
        }
        x.aunt(0, true);
        Check.due("P8 TIED to one who isn't HERE", x.tie(0, 2), 1);
        Check.due("P8 nobody is told", new BeatParish().tie(0, 0), -1);
    }

    private static void askedOfLaws() {
        BeatParish x = Check.parish("man a 60 20;man b 45 0;work p b 50 3 7;law slip 5;law wear 6;law hush 7;");
        int[] none = {-1, 2, 8, MAX, MIN};
        for (int which : none) {
            Check.due("P10 law(0, " + which + ")", x.law(0, which), ERROR);
            Check.due("P10 law(1, " + which + ")", x.law(1, which), 6);
            Check.due("P10 law(2, " + which + ")", x.law(2, which), ERROR);
        }
        Check.due("P10 law(0, 0)", x.law(0, 0), 5);
        Check.due("P10 law(0, 1)", x.law(0, 1), ERROR);
        Check.due("P10 law(2, 0)", x.law(2, 0), 7);
        Check.due("P10 law(2, 1)", x.law(2, 1), 7);
        int[] others = {-1, 3, 4, MAX, MIN};
        for (int what : others) {
            Check.due("P10 law(" + what + ", 0)", x.law(what, 0), ERROR);
        }
        String[] laws = {"slip", "wear", "hush"};
        for (int k = 0; k < 3; k++) {
            BeatParish y = Check.parish("man a 60 20;work p a 50 3 7;law " + laws[k] + " 0 - 1;");
            for (int what = 0; what < 3; what++) {
                Check.due("P10 law(" + what + ") with that of " + laws[k] + " alone", y.law(what, 0), what == k ? -1 : ERROR);
            }
        }
        x = Check.parish("man a 60 20;work p a 50 3 0;law slip left * 100 + fast;");
        x.go(1);
        Check.due("P10 of a WORK that is DONE", x.law(0, 0), 60);
        x.aunt(0, true);
        Check.due("P10 of one who isn't HERE", x.law(0, 0), 60);
    }

    /** SHIFT is so much -99 .. 99. */
    private static void shifted() {
        BeatParish x = new BeatParish();
        int[] none = {-100, 100, 101, MAX, MIN};
        for (int much = -99; much <= 99; much++) {
            x = much == 1 ? new BeatParish() : x;
            Check.due("P11 shift(" + much + ")", x.shift(much), true);
            Check.due("P11 SHIFT " + much, x.count(6), much);
            Check.due("P11 it is so, " + much, x.shift(much), false);
            Check.due("P11 no such one, " + much, x.shift(none[(much + 99) % 5]), false);
            Check.due("P11 SHIFT stays " + much, x.count(6), much);
        }
    }

    /** The spring is wound by so much 1 .. 999: COIL then, not above 999. */
    private static void wound() {
        int[] springs = {0, 1, 500, 998, 999};
        for (int spring : springs) {
            BeatParish x = Check.parish("spring " + spring + ";");
            int[] none = {0, -1, -999, 1000, 1000 - spring, 999, MAX, MIN, MAX - spring};
            for (int much : none) {
                if (much < 1 || spring + (long) much > 999) {
                    Check.due("P12 wind(" + much + ") of " + spring, x.wind(much), -1);
                    Check.due("P12 COIL stays " + spring, x.count(5), spring);
                }
            }
            if (spring < 999) {
                Check.due("P12 wind(1) of " + spring, x.wind(1), spring + 1);
                x.undo();
                Check.due("P12 wind to 999 of " + spring, x.wind(999 - spring), 999);
                Check.due("P12 COIL 999", x.count(5), 999);
            }
            Check.due("P12 no more", x.wind(1), -1);
        }
    }

    /** A PERSON who is HERE has HICCUPS for so many HOURS 0 .. 9 to come. */
    private static void hiccupped() {
        BeatParish x = Check.parish("man a 9 0;man b 9 0;");
        int[] none = {-1, 10, 11, MAX, MIN};
        for (int hours = 9; hours >= 0; hours--) {
            Check.due("P13 hiccup(1, " + hours + ")", x.hiccup(1, hours), true);
            Check.due("P13 for " + hours, Check.man(x, 1, 3), hours);
            Check.due("P13 it is so, " + hours, x.hiccup(1, hours), false);
            for (int other : none) {
                Check.due("P13 hiccup(1, " + other + ")", x.hiccup(1, other), false);
            }
            Check.due("P13 still for " + hours, Check.man(x, 1, 3), hours);
            Check.due("P45 who has HICCUPS, " + hours, x.count(9), hours > 0 ? 1 : 0);
        }
        int[] noMen = {-1, 2, 6, MAX, MIN};
        for (int man : noMen) {
            Check.due("P13 hiccup(" + man + ", 5)", x.hiccup(man, 5), false);
        }
        Check.due("P13 of another one it is 0", x.hiccup(0, 0), false);
        x.aunt(1, true);
        for (int hours = -1; hours <= 10; hours++) {
            Check.due("P13 not HERE, " + hours, x.hiccup(1, hours), false);
        }
        Check.due("P13 nobody is told", new BeatParish().hiccup(0, 5), false);
    }

    /** A PERSON goes to an aunt (no more HERE, no HICCUPS), or comes back. */
    private static void sentAway() {
        BeatParish x = Check.parish("man a 9 0;man b 9 0;");
        int[] none = {-1, 2, 6, MAX, MIN};
        for (int man : none) {
            Check.due("P14 aunt(" + man + ", true)", x.aunt(man, true), false);
            Check.due("P14 aunt(" + man + ", false)", x.aunt(man, false), false);
        }
        x.hiccup(0, 9);
        x.hiccup(1, 8);
        Check.due("P14 HERE already", x.aunt(0, false), false);
        Check.due("P14 HICCUPS stay", Check.man(x, 0, 3), 9);
        Check.due("P14 goes", x.aunt(0, true), true);
        Check.due("P14 not HERE", x.count(10), 1);
        Check.due("P14 HICCUPS of the other one", x.count(9), 1);
        Check.due("P14 is away already", x.aunt(0, true), false);
        Check.due("P14 comes back", x.aunt(0, false), true);
        Check.due("P14 HERE", x.count(10), 2);
        Check.due("P14 no HICCUPS", Check.man(x, 0, 3), 0);
        Check.due("P14 those of the other one", Check.man(x, 1, 3), 8);
        Check.due("P14 nobody is told", new BeatParish().aunt(0, true), false);
    }

    /** So many HOURS (0 .. 99) go by; none behind 9900. */
    private static void went() {
        int[] none = {-1, 100, 101, 9900, MAX, MIN};
        BeatParish x = new BeatParish();
        for (int n : none) {
            Check.due("P15 go(" + n + ")", x.go(n), -1);
            Check.due("P15 none does, " + n, x.count(4), 0);
            Check.due("P15 COIL stays, " + n, x.count(5), 200);
        }
        Check.due("P15 go(0)", x.go(0), 0);
        Check.due("P15 COIL by none", x.count(5), 200);
        Check.due("P15 go(1)", x.go(1), 1);
        Check.due("P15 go(99)", x.go(99), 100);
        Check.due("P15 COIL by 100", x.count(5), 100);
        for (int hour = 199; hour <= 9900; hour += 99) {
            Check.due("P15 go(99) to " + hour, x.go(99), hour);
        }
        Check.due("P15 9802", x.count(4), 100 + 98 * 99);
        Check.due("P15 99 to 9901", x.go(99), -1);
        Check.due("P15 none did", x.count(4), 9802);
        x.wind(500);
        Check.due("P15 98 to 9900", x.go(98), 9900);
        Check.due("P15 COIL at 9900", x.count(5), 402);
        Check.due("P15 9901", x.go(1), -1);
        Check.due("P15 none at 9900", x.go(0), 9900);
        Check.due("P15 COIL stays at 9900", x.count(5), 402);
        Check.due("P16 ahead of 9900", x.ahead(200, 2, 0), 202);
    }
}
