/** Promises 36 to 45 and behind '==== 4.': as many as there may be and one more, what an IMAGE keeps and what not. */
final class EdgeSeenTest {
    private static final int MIN = Integer.MIN_VALUE;
    private static final int MAX = Integer.MAX_VALUE;

    private EdgeSeenTest() {
    }

    public static void main(String[] args) {
        seeLimits();
        seen24();
        knownBy();
        shiftsOfOne();
        shiftsBehind();
        strikesOfStrikes();
        nothingByCall();
        chanceLimits();
        chanceFromNow();
        chanceDrawn();
        triedLimits();
        triedOf();
        undoMost();
        undoKinds();
        undoUntil();
        imageNone();
        imageKeeps();
        imageKeepsNot();
        counts();
        Check.end();
    }

    /** SEEN (BEATS 0 .. 999), HOURS 1 .. 40; a STRIKE of one SEEN. */
    private static void seeLimits() {
        BeatParish x = Check.parish("man a 9 0;work p a 90 1 0;work q a 90 1 0;");
        int[] hours = {-1, 0, 41, 42, MIN, MAX};
        for (int hour : hours) {
            Check.due("P36 hours " + hour, x.see(hour, 0, 5, true), -1);
        }
        int[] works = {-1, 2, 8, MIN, MAX};
        for (int work : works) {
            Check.due("P36 work " + work, x.see(5, work, 5, true), -1);
        }
        int[] beats = {-1, 1000, 1001, MIN, MAX};
        for (int many : beats) {
            Check.due("P36 beats " + many, x.see(5, 0, many, false), -1);
        }
        int[] seen = {-1, 0, 1, 24, MIN, MAX};
        for (int one : seen) {
            Check.due("P37 strike(" + one + ") of none", x.strike(one), -1);
        }
        Check.due("P45 nothing SEEN", x.count(11), 0);
        Check.due("P36 1, 0", x.see(1, 0, 0, false), 0);
        Check.due("P37 the next one", x.strike(1), -1);
        Check.due("P36 40, 999", x.see(40, 1, 999, true), 1);
        Check.due("P37 the last one", x.strike(1), 2);
        Check.due("P37 itself", x.strike(3), -1);
        Check.due("P37 a STRIKE", x.strike(2), 3);
        Check.due("P37 the first one", x.strike(0), 4);
        Check.due("P37 once more", x.strike(0), 5);
        for (int one : seen) {
            if (one < 0 || one > 5) {
                Check.due("P37 strike(" + one + ") of six", x.strike(one), -1);
            }
        }
        Check.due("P45 six SEEN", x.count(11), 6);
        Check.due("P36 no WORK is told", new BeatParish().see(5, 0, 5, true), -1);
        Check.due("P37 nothing SEEN at first", new BeatParish().strike(0), -1);
    }

    /** SEEN, at most 24, numbered from 0 on. */
    private static void seen24() {
        for (int strikes = 0; strikes < 2; strikes++) {
            BeatParish x = Check.parish("man a 9 0;work p a 90 1 0;");
            for (int k = 0; k < 24; k++) {
                Check.due("P36 there are " + k, x.count(11), k);
                Check.due("P36 number " + k, strikes == 1 && k > 0 ? x.strike(k - 1) : x.see(1, 0, 30, true), k);
            }
            for (int k = 0; k < 3; k++) {
                Check.due("P36 a 25th", x.see(1, 0, 5, true), -1);
                Check.due("P36 a 25th, wrong", x.see(0, 0, 5, true), -1);
                Check.due("P37 a 25th", x.strike(k), -1);
                Check.due("P37 a 25th of the last", x.strike(23), -1);
            }
            Check.due("P45 24", x.count(11), 24);
            Check.due("P38 by 24", x.known(24), true);
            Check.due("P38 by 25", x.known(25), false);
            // 23 STRIKES of one another: the last one counts, so each other one and not the first of them
            Check.due("P39 by 24", x.shifts(), strikes == 1 ? 1023 : 1);
            x.known(23);
            Check.due("P39 by 23", x.shifts(), 1);
        }
        // the 24th counts, too
        BeatParish x = Check.parish("man a 9 0;work p a 90 1 0;");
        for (int k = 0; k < 23; k++) {
            x.see(40, 0, 0, true);
        }
        Check.due("P39 of 23", x.shifts(), 1023);
        x.see(1, 0, 30, false);
        Check.due("P39 of 24", x.shifts(), 1022);
        x = Check.parish("man a 9 0;work p a 90 1 0;");
        for (int k = 0; k < 23; k++) {
            x.see(1, 0, 30, false);
        }
        x.strike(0);
        Check.due("P39 the 24th is a STRIKE of one", x.shifts(), 1022);
    }

    /** KNOWN by n (-1: by all, also those to come): false: no such n. */
    private static void knownBy() {
        BeatParish x = Check.parish("man a 9 0;work p a 90 1 0;speed 30;");
        Check.due("P38 0 of none", x.known(0), true);
        Check.due("P38 1 of none", x.known(1), false);
        Check.due("P38 -1 of none", x.known(-1), true);
        Check.due("P45 by all of none", x.count(12), 0);
        x.see(1, 0, 60, true);
        Check.due("P38 all at first", x.count(12), 1);
        x.see(1, 0, 60, false);
        x.see(1, 0, 50, false);
        int[] none = {-2, -3, 4, 5, 24, MIN, MAX};
        for (int n = -1; n <= 3; n++) {
            Check.due("P38 known(" + n + ")", x.known(n), true);
            Check.due("P38 known(" + n + ") again", x.known(n), true);
            Check.due("P45 by " + n, x.count(12), n < 0 ? 3 : n);
            int[] shifts = {0, 1023, 1, 0, 0};
            Check.due("P39 by " + n, x.shifts(), shifts[n + 1]);
            for (int wrong : none) {
                Check.due("P38 known(" + wrong + ")", x.known(wrong), false);
            }
            Check.due("P45 still by " + n, x.count(12), n < 0 ? 3 : n);
        }
        x.known(2);
        x.strike(1);
        Check.due("P45 by two of four", x.count(12), 2);
        Check.due("P39 a STRIKE that isn't KNOWN", x.shifts(), 0);
        x.known(4);
        Check.due("P39 a STRIKE that is", x.shifts(), 0);
        x.strike(0);
        Check.due("P39 by four of five", x.shifts(), 0);
        x.known(-1);
        // the first two are STRUCK, fewer than 50 of 60 - s stay
        Check.due("P39 by all", x.shifts(), 1008);
        x.see(1, 0, 40, true);
        Check.due("P45 by all, also those to come", x.count(12), 6);
        Check.due("P39 by all, also those to come", x.shifts(), 112);
        x.known(6);
        x.see(1, 0, 0, false);
        Check.due("P45 by six of seven", x.count(12), 6);
        Check.due("P39 by six of seven", x.shifts(), 112);
        x.known(-1);
        Check.due("P39 by all seven", x.shifts(), 0);
        seenButNotKnown();
    }

    /** What is SEEN is so by its number, whether KNOWN or not: it may be STRUCK, and the next number is behind it. */
    private static void seenButNotKnown() {
        BeatParish x = Check.parish("man a 9 0;work p a 90 1 0;speed 30;");
        x.see(1, 0, 60, true);
        x.see(1, 0, 60, false);
        for (int n = 0; n <= 1; n++) {
            Check.due("P38 by " + n, x.known(n), true);
            Check.due("P37 one that isn't KNOWN by " + n, x.strike(1), 2 + n);
            Check.due("P36 behind it, by " + n, x.count(12), n);
        }
        Check.due("P36 a number that isn't KNOWN", x.see(1, 0, 54, true), 4);
        Check.due("P39 by the first", x.shifts(), 1);
        Check.due("P38 by two", x.known(2), true);
        Check.due("P39 by two", x.shifts(), 0);
        Check.due("P38 by three", x.known(3), true);
        Check.due("P39 by three, the second one STRUCK", x.shifts(), 1);
        Check.due("P37 a STRIKE that isn't KNOWN", x.strike(3), 5);
        Check.due("P37 none that is SEEN", x.strike(6), -1);
        x.known(0);
        Check.due("P37 the first one, none KNOWN", x.strike(0), 6);
        Check.due("P39 none KNOWN", x.shifts(), 1023);
        x.known(-1);
        // the first two are STRUCK, 54 at least of 60 - s stay
        Check.due("P39 all KNOWN", x.shifts(), 7);
    }

    /** 0, 3, 6, .. 27 (bits 0 .. 9). */
    private static void shiftsOfOne() {
        BeatParish x = Check.parish("man a 9 0;work p a 100 1 0;speed 50;");
        for (int beats = 20; beats <= 53; beats++) {
            int atLeast = 0;
            int fewer = 0;
            for (int k = 0; k < 10; k++) {
                if (50 - 3 * k >= beats) {
                    atLeast |= 1 << k;
                } else {
                    fewer |= 1 << k;
                }
            }
            Check.tell(x, "man a 9 0;work p a 100 1 0;speed 50;");
            x.see(1, 0, beats, true);
            Check.due("P39 at least " + beats, x.shifts(), atLeast);
            Check.tell(x, "man a 9 0;work p a 100 1 0;speed 50;");
            x.see(1, 0, beats, false);
            Check.due("P39 fewer than " + beats, x.shifts(), fewer);
        }
        int[][] due = {{0, 1023, 0}, {1, 1, 1022}, {999, 0, 1023}};
        for (int[] one : due) {
            x = Check.parish("man a 9 0;work p a 10 1 0;speed 9;");
            x.see(1, 0, one[0], true);
            Check.due("P39 at least " + one[0] + " of 10", x.shifts(), one[1]);
            x.strike(0);
            x.see(1, 0, one[0], false);
            Check.due("P39 fewer than " + one[0] + " of 10", x.shifts(), one[2]);
        }
    }

    /** Behind so many HOURS 1 .. 40, of a WORK. */
    private static void shiftsBehind() {
        String text = "man a 9 0;man b 9 0;work p a 999 1 0;work q b 999 1 39;work r a 30 1 0;work s b 999 1 99;speed 1;spring 999;";
        int[] hours = {1, 2, 39, 40};
        for (int hour : hours) {
            for (int k = 0; k < 10; k++) {
                BeatParish x = Check.parish(text);
                int left = Math.max(0, 999 - hour * (1 + 3 * k));
                int atLeast = 0;
                int just = 0;
                for (int other = 0; other < 10; other++) {
                    int then = Math.max(0, 999 - hour * (1 + 3 * other));
                    atLeast |= then >= left ? 1 << other : 0;
                    just |= then == left ? 1 << other : 0;
                }
                x.see(hour, 0, left, true);
                Check.due("P39 behind " + hour + " at least " + left, x.shifts(), atLeast);
                x.see(hour, 0, left + 1, false);
                Check.due("P39 behind " + hour + " just " + left, x.shifts(), just);
            }
        }
        BeatParish x = Check.parish(text);
        x.see(39, 1, 999, true);
        Check.due("P39 not begun behind 39", x.shifts(), 1023);
        x.see(40, 1, 998, true);
        Check.due("P39 begun behind 40", x.shifts(), 1);
        x.see(40, 3, 999, true);
        Check.due("P39 one that hasn't begun", x.shifts(), 1);
        x = Check.parish(text);
        x.see(2, 2, 30 - 2 * 7, false);
        Check.due("P39 of r fewer", x.shifts(), 1016);
        x.see(2, 0, 999 - 2 * 10, true);
        Check.due("P39 of r fewer, of p at least", x.shifts(), 8);
        x.see(5, 2, 1, false);
        Check.due("P39 of r none behind 5", x.shifts(), 8);
        x.see(2, 2, 10, false);
        Check.due("P39 none at all", x.shifts(), 0);
    }

    /** A STRIKE may be STRUCK: then it doesn't count; asked from the last one on. */
    private static void strikesOfStrikes() {
        BeatParish x = Check.parish("man a 9 0;work p a 100 1 0;speed 50;");
        x.see(1, 0, 50, true);
        int[] strikes = {0, 1, 2, 3, 4, 5, 6};
        for (int k = 0; k < strikes.length; k++) {
            Check.due("P39 a row of " + k, x.shifts(), k % 2 == 0 ? 1 : 1023);
            x.strike(strikes[k]);
        }
        x = Check.parish("man a 9 0;work p a 100 1 0;speed 50;");
        x.see(1, 0, 50, true);
        x.strike(0);
        x.strike(0);
        Check.due("P39 STRUCK twice", x.shifts(), 1023);
        x.strike(1);
        Check.due("P39 STRUCK by one still", x.shifts(), 1023);
        x.strike(2);
        Check.due("P39 STRUCK by none", x.shifts(), 1);
        x.strike(4);
        Check.due("P39 STRUCK by one again", x.shifts(), 1023);
        for (int n = 0; n <= 6; n++) {
            int[] due = {1023, 1, 1023, 1023, 1023, 1, 1023};
            x.known(n);
            Check.due("P39 KNOWN by " + n, x.shifts(), due[n]);
        }
    }

    /** As it goes from the TEXT on, nothing done by call. */
    private static void nothingByCall() {
        String text = "man a 9 0;man b 9 0;tie a b;work p a 300 1 0;speed 50;spring 3;wasp 49;seed 7;law wear 1;";
        BeatParish x = Check.parish(text);
        x.shift(-20);
        x.wind(900);
        x.hiccup(0, 9);
        x.go(5);
        x.aunt(0, true);
        x.see(3, 0, 150, true);
        x.see(4, 0, 150, false);
        Check.due("P39 three HOURS of 50 at most", x.shifts(), 0);
        x.strike(1);
        Check.due("P39 behind 3", x.shifts(), 1);
        x.see(4, 0, 150, true);
        Check.due("P39 behind 4 as behind 3", x.shifts(), 1);
        x.see(40, 0, 150, true);
        Check.due("P39 behind 40 as behind 3", x.shifts(), 1);
        Check.due("P39 nothing went by", x.count(4), 5);
        Check.due("P39 SHIFT as it was", x.count(6), -20);
        x = Check.parish("man a 9 0;work p a 300 1 0;speed 50;wasp 50;seed 7;");
        x.see(2, 0, 100, true);
        Check.due("P39 a WASP as it goes", x.shifts(), 1);
        Check.due("P39 nothing SEEN, none told", new BeatParish().shifts(), 1023);
    }

    /** A seed 0 .. 2147483647; n 1 .. 99. */
    private static void chanceLimits() {
        BeatParish x = Check.parish("man a 9 0;work p a 99 1 0;work q a 100 1 0;work r a 1 1 0;work s a 1 1 98;work t a 1 1 99;speed 1;");
        int[] seeds = {-1, -2, MIN};
        for (int seed : seeds) {
            Check.due("P40 seed " + seed, x.chance(seed, 5, 2), -1);
        }
        int[] most = {0, 1, MAX - 1, MAX};
        for (int seed : most) {
            Check.due("P40 seed " + seed, x.chance(seed, 5, 2), 10);
        }
        int[] none = {-1, 0, 100, 101, MIN, MAX};
        for (int n : none) {
            Check.due("P40 n " + n, x.chance(5, n, 2), -1);
        }
        int[] works = {-1, 5, 8, MIN, MAX};
        for (int work : works) {
            Check.due("P40 WORK " + work, x.chance(5, 5, work), -1);
        }
        Check.due("P40 n 1", x.chance(5, 1, 2), 10);
        Check.due("P40 n 98 of 99", x.chance(5, 98, 0), 0);
        Check.due("P40 n 99 of 99", x.chance(5, 99, 0), 10);
        Check.due("P40 n 99 of 100", x.chance(5, 99, 1), 0);
        Check.due("P40 n 98 from 98 on", x.chance(5, 98, 3), 0);
        Check.due("P40 n 99 from 98 on", x.chance(5, 99, 3), 10);
        Check.due("P40 n 99 from 99 on", x.chance(5, 99, 4), 0);
        x.go(1);
        Check.due("P40 n 99 from now", x.chance(5, 99, 1), 10);
        Check.due("P40 it is DONE", x.chance(5, 1, 2), 10);
        Check.due("P40 it is DONE, n 0", x.chance(5, 0, 2), -1);
        x.aunt(0, true);
        Check.due("P40 not HERE", x.chance(5, 99, 0), 0);
        Check.due("P40 none is told", new BeatParish().chance(5, 5, 0), -1);
    }

    /** N HOURS from now: by the HICCUPS, the SHIFT, the COIL and the HOUR that are, by who is HERE. */
    private static void chanceFromNow() {
        String told = "man a 9 0;man b 9 0;work p a 120 1 0;work q b 100 1 2;";
        BeatParish x = Check.parish(told);
        tenOrNone("P40 at first", x, 0, 2);
        tenOrNone("P40 of one that begins at 2", x, 1, 4);
        x.hiccup(0, 1);
        tenOrNone("P40 HICCUPS for an HOUR", x, 0, 3);
        x.hiccup(0, 9);
        tenOrNone("P40 HICCUPS for nine", x, 0, 11);
        x.hiccup(0, 0);
        x.shift(-30);
        tenOrNone("P40 SHIFT -30", x, 0, 4);
        x.shift(60);
        tenOrNone("P40 SHIFT 60", x, 0, 1);
        x.shift(0);
        x.aunt(1, true);
        tenOrNone("P40 another one away", x, 0, 2);
        Check.due("P40 who is away", x.chance(3, 99, 1), 0);
        x.aunt(1, false);
        x.go(1);
        tenOrNone("P40 in HOUR 1", x, 0, 1);
        tenOrNone("P40 in HOUR 1, of one that begins at 2", x, 1, 3);
        x = Check.parish(told + "spring 1;");
        Check.due("P40 COIL for an HOUR", x.chance(3, 99, 0), 0);
        x.wind(1);
        tenOrNone("P40 COIL for two", x, 0, 2);
    }

    /** Without WASPS a WORK is DONE each time, from a number of HOURS on. */
    private static void tenOrNone(String what, BeatParish x, int work, int hours) {
        Check.due(what + ", an HOUR less", x.chance(3, Math.max(1, hours - 1), work), hours == 1 ? 10 : 0);
        Check.due(what, x.chance(3, hours, work), 10);
    }

    /** Numbers from a seed on, one behind another, through all ten times; those of the parish stay. */
    private static void chanceDrawn() {
        int[] seeds = {0, 7, 99999, 100000, MAX - 1, MAX};
        int[] hours = {1, 2, 5, 99};
        boolean[] seen = new boolean[11];
        for (int seed : seeds) {
            for (int n : hours) {
                for (int wasp = 1; wasp <= 99; wasp += 14) {
                    int beats = Math.min(999, n * 2 + n * 2 * wasp / 100 + (seed & 1));
                    BeatParish x = Check.parish("man a 9 0;work p a " + beats + " 1 0;speed 2;seed 4;wasp " + wasp + ";");
                    long number = seed;
                    int times = 0;
                    for (int time = 0; time < 10; time++) {
                        int left = beats;
                        for (int hour = 0; hour < n; hour++) {
                            number = (number * 1103515245L + 12345L) % (1L << 31);
                            left -= number / 65536 % 100 < wasp ? 4 : 2;
                        }
                        times += left <= 0 ? 1 : 0;
                    }
                    seen[times] = true;
                    Check.due("P40 seed " + seed + ", n " + n + ", wasp " + wasp, x.chance(seed, n, 0), times);
                    Check.due("P40 seed " + seed + ", n " + n + ", wasp " + wasp + " again", x.chance(seed, n, 0), times);
                    BeatParish y = Check.parish("man a 9 0;work p a " + beats + " 1 0;speed 2;seed 4;wasp " + wasp + ";");
                    x.go(3);
                    y.go(3);
                    Check.due("P40 the numbers of the parish stay", x.work(0, 4), y.work(0, 4));
                }
            }
        }
        Check.due("P40 none of ten was seen", seen[0], true);
        Check.due("P40 all of ten were seen", seen[10], true);
    }

    /** TRIED (n 0 .. 99), i 0 of all but 2. */
    private static void triedLimits() {
        BeatParish x = Check.parish("man a 9 0;man b 9 0;work p a 999 1 0;speed 1;spring 999;law slip 1;");
        int[] none = {-1, 100, 101, MIN, MAX};
        int[] wrong = {-1, 1, 2, 6, MIN, MAX};
        int[] men = {-1, 2, 6, MIN, MAX};
        for (int what = 0; what < 5; what++) {
            for (int n : none) {
                Check.due("P41 tried(" + what + ", 0, " + n + ")", x.tried(what, 0, n), -1);
            }
            for (int n = 0; n <= 99; n += 33) {
                Check.due("P41 tried(" + what + ", 0, " + n + ")", x.tried(what, 0, n), what == 2 ? 0 : n);
            }
            int[] others = what == 2 ? men : wrong;
            for (int i : others) {
                Check.due("P41 tried(" + what + ", " + i + ", 5)", x.tried(what, i, 5), -1);
            }
            Check.due("P41 what " + what + ", nobody is told", new BeatParish().tried(what, 0, 5), what == 2 ? -1 : 0);
        }
        Check.due("P41 the last PERSON", x.tried(2, 1, 99), 99);
        int[] whats = {-1, 5, 6, MIN, MAX};
        for (int what : whats) {
            Check.due("P41 tried(" + what + ", 0, 5)", x.tried(what, 0, 5), -1);
        }
    }

    private static void triedOf() {
        String text = "man a 19 99;man b 29 0;tie a b;work p a 999 1 0;work q b 999 1 0;speed 30;spring 2;";
        BeatParish x = Check.parish(text + "wasp 50;");
        // by BEAT 60 a slips 4, b 3 an HOUR; by 30 a 1, b 0
        int[] due = {2, 14, 6, 35, 14};
        for (int what = 0; what < 5; what++) {
            Check.due("P41 what " + what, x.tried(what, 0, 5), due[what]);
        }
        x.go(1);
        x.shift(10);
        // BEAT 80 of one HOUR: 6 and 5, without WASPS 40: 2 and 1; with SHIFT 0 4 and 3
        int[] later = {3, 11, 5, 55, 7};
        for (int what = 0; what < 5; what++) {
            Check.due("P41 what " + what + " an HOUR later", x.tried(what, 0, 5), later[what]);
        }
        x.hiccup(1, 1);
        // b has them in this HOUR, a by b in the next five, b by a in each other one of these
        int[] hiccups = {2, 11, 0, 6 + 5 + 5, 4};
        for (int what = 0; what < 5; what++) {
            Check.due("P41 what " + what + " with HICCUPS", x.tried(what, 0, 5), hiccups[what]);
        }
        Check.due("P41 b isn't HERE", x.tried(2, 1, 5), 6);
        x.aunt(0, true);
        Check.due("P41 one who isn't HERE isn't", x.tried(2, 0, 5), 0);
        x = Check.parish("man a 9 0;work p a 999 1 0;speed 18;law slip beat > 18;");
        x.shift(50);
        Check.due("P41 SHIFT 0", x.tried(4, 0, 9), 0);
        Check.due("P41 SHIFT 50", x.tried(1, 0, 9), 9);
        x = Check.parish("man a 9 0;work p a 999 1 0;speed 1;law slip coil = 999;law wear 0;");
        Check.due("P41 COIL is 999", x.tried(3, 0, 9), 9);
        Check.due("P41 COIL is 200", x.tried(1, 0, 9), 0);
        x = Check.parish("man a 9 0;work p a 999 1 0;spring 0;");
        Check.due("P41 COIL is 999 of 0", x.tried(3, 0, 9), 45);
        Check.due("P41 COIL is 0", x.tried(1, 0, 9), 0);
    }

    /** Undone, the latest first (20 at most). */
    private static void undoMost() {
        int[] deeds = {0, 1, 2, 19, 20, 21, 40, 99};
        for (int many : deeds) {
            BeatParish x = new BeatParish();
            for (int k = 1; k <= many; k++) {
                x.shift(k);
                Check.due("P45 what can be undone of " + k, x.count(13), Math.min(20, k));
            }
            int can = Math.min(20, many);
            for (int left = can - 1; left >= 0; left--) {
                Check.due("P42 of " + many + ", left", x.undo(), left);
                Check.due("P42 of " + many + ", SHIFT", x.count(6), many - can + left);
                Check.due("P45 of " + many + ", left", x.count(13), left);
            }
            for (int k = 0; k < 3; k++) {
                Check.due("P42 of " + many + ", none", x.undo(), -1);
                Check.due("P42 of " + many + ", none undone", x.count(6), many - can);
                Check.due("P45 of " + many + ", none", x.count(13), 0);
            }
            x.shift(-50);
            Check.due("P42 of " + many + ", one more", x.undo(), 0);
            Check.due("P42 of " + many + ", SHIFT again", x.count(6), many - can);
        }
    }

    /** Each kind by itself, and what a call does not tell: what was, not what is. */
    private static void undoKinds() {
        BeatParish x = Check.parish("man a 9 0;man b 9 0;spring 7;");
        x.shift(-99);
        Check.due("P42 SHIFT", x.undo(), 0);
        Check.due("P42 SHIFT 0", x.count(6), 0);
        x.wind(992);
        Check.due("P42 wound", x.undo(), 0);
        Check.due("P42 COIL 7", x.count(5), 7);
        x.hiccup(1, 9);
        Check.due("P42 HICCUPS", x.undo(), 0);
        Check.due("P42 no HICCUPS", Check.man(x, 1, 3), 0);
        x.hiccup(1, 9);
        x.hiccup(1, 0);
        Check.due("P42 HICCUPS 0", x.undo(), 1);
        Check.due("P42 HICCUPS 9 again", Check.man(x, 1, 3), 9);
        x.aunt(1, true);
        Check.due("P42 the aunt", x.undo(), 1);
        Check.due("P42 HERE again", Check.man(x, 1, 4), 1);
        Check.due("P42 with HICCUPS again", Check.man(x, 1, 3), 9);
        x.aunt(1, true);
        x.aunt(1, false);
        x.hiccup(1, 4);
        Check.due("P42 HICCUPS behind the aunt", x.undo(), 3);
        Check.due("P42 none behind the aunt", Check.man(x, 1, 3), 0);
        Check.due("P42 back from the aunt", x.undo(), 2);
        Check.due("P42 not HERE", Check.man(x, 1, 4), 0);
        Check.due("P42 no HICCUPS there", Check.man(x, 1, 3), 0);
        Check.due("P42 to the aunt", x.undo(), 1);
        Check.due("P42 HICCUPS 9 once more", Check.man(x, 1, 3), 9);
        Check.due("P42 the other one", Check.man(x, 0, 3), 0);
        Check.due("P42 the other one is HERE", Check.man(x, 0, 4), 1);
        // what isn't done can't be undone
        x = Check.parish("man a 9 0;spring 999;");
        x.shift(0);
        x.shift(100);
        x.wind(1);
        x.wind(0);
        x.hiccup(0, 0);
        x.hiccup(0, 10);
        x.hiccup(1, 1);
        x.aunt(0, false);
        x.aunt(1, true);
        Check.due("P45 nothing to undo", x.count(13), 0);
        Check.due("P42 nothing to undo", x.undo(), -1);
    }

    /** If no HOUR went by since. */
    private static void undoUntil() {
        BeatParish x = Check.parish("man a 9 0;");
        for (int k = 1; k <= 20; k++) {
            x.shift(k);
        }
        x.go(0);
        x.go(-1);
        x.go(100);
        x.go(MAX);
        Check.due("P45 no HOUR went by", x.count(13), 20);
        x.keep();
        x.see(1, 0, 1, true);
        x.known(0);
        x.ahead(200, 2, 0);
        x.stops();
        x.text(1);
        Check.feed(x, "?");
        x.text(1);
        Check.due("P45 no HOUR went by still", x.count(13), 20);
        Check.due("P42 no HOUR went by", x.undo(), 19);
        x.go(1);
        Check.due("P45 an HOUR went by", x.count(13), 0);
        Check.due("P42 an HOUR went by", x.undo(), -1);
        Check.due("P42 SHIFT stays", x.count(6), 19);
        x.shift(5);
        Check.due("P42 since then", x.undo(), 0);
        Check.due("P42 SHIFT as it was then", x.count(6), 19);
        x.shift(6);
        x.go(99);
        Check.due("P42 99 HOURS went by", x.undo(), -1);
        for (int k = 0; k < 99; k++) {
            x.go(99);
        }
        x.shift(7);
        int room = 9900 - x.go(0);
        Check.due("P15 beyond 9900", x.go(room + 1), -1);
        Check.due("P42 none went by beyond 9900", x.undo(), 0);
        x.shift(8);
        Check.due("P44 none to go back to behind an HOUR", x.back(), 0);
        Check.due("P42 nothing to undo then", x.undo(), -1);
        x.shift(9);
        Check.tell(x, "man a 9 0;");
        Check.due("P42 another TEXT", x.undo(), -1);
    }

    private static void imageNone() {
        BeatParish x = new BeatParish();
        x.shift(5);
        Check.due("P44 none at first", x.back(), -1);
        Check.due("P44 none: SHIFT stays", x.count(6), 5);
        Check.due("P44 none: undo stays", x.count(13), 1);
        Check.due("P43 of a new object", x.keep(), 0);
        Check.due("P43 undo stays", x.count(13), 1);
        x.shift(6);
        x.go(9);
        Check.due("P43 in place of one ahead", x.keep(), 9);
        x.shift(7);
        x.go(9);
        for (int k = 0; k < 3; k++) {
            Check.due("P44 as often as one likes", x.back(), 9);
            Check.due("P44 SHIFT 6", x.count(6), 6);
            x.go(k);
            x.shift(k);
        }
        x.text(5);
        Check.due("P44 -2 leaves it", x.back(), 9);
        Check.tell(x, "?");
        Check.due("P44 a FAULT leaves it", x.back(), 9);
        x.text(0);
        Check.due("P44 a TEXT doesn't", x.back(), -1);
    }

    /** An IMAGE keeps all: HOUR, COIL, SHIFT, SLIPS, HICCUPS, HERE, what is left, when DONE, the last number. */
    private static void imageKeeps() {
        String text = "man a 9 50;man b 30 0;man c 9 0;tie a b;tie b c;work p a 500 1 0;work q b 400 5 2;work r c 60 1 0;work s c 1 1 0;"
            + "wasp 45;seed 8;speed 31;speed 20;speed 11;law hush 1 + hour;";
        for (int hours = 0; hours < 9; hours++) {
            BeatParish x = Check.parish(text);
            BeatParish y = Check.parish(text);
            live(x, hours);
            live(y, hours);
            Check.due("P43 which HOUR", x.keep(), hours);
            x.go(7);
            x.shift(99);
            x.wind(500);
            x.hiccup(1, 0);
            x.hiccup(1, 9);
            x.aunt(2, true);
            x.aunt(0, false);
            x.hiccup(0, 4);
            Check.due("P44 which HOUR", x.back(), hours);
            Check.due("P44 nothing to undo then", x.undo(), -1);
            Check.due("P45 nothing to undo then", x.count(13), 0);
            for (int step = 0; step < 8; step++) {
                for (int what = 4; what < 11; what++) {
                    Check.due("P44 at " + hours + " and " + step + ", count(" + what + ")", x.count(what), y.count(what));
                }
                for (int one = 0; one < 4; one++) {
                    for (int what = 0; what < 6; what++) {
                        Check.due("P44 at " + hours + " and " + step + ", man(" + one + ", " + what + ")", Check.man(x, one, what),
                            Check.man(y, one, what));
                        Check.due("P44 at " + hours + " and " + step + ", work(" + one + ", " + what + ")", x.work(one, what),
                            y.work(one, what));
                    }
                }
                x.go(1);
                y.go(1);
            }
        }
    }

    private static void live(BeatParish x, int hours) {
        x.hiccup(1, 1);
        x.go(hours);
        x.shift(hours - 3);
        x.aunt(0, true);
        x.hiccup(1, 2);
        x.wind(3);
    }

    /** But what was SEEN, by how many it is KNOWN, the TAPE and the FAULT. */
    private static void imageKeepsNot() {
        BeatParish x = Check.parish("man a 9 0;work p a 90 1 0;speed 30;");
        x.see(1, 0, 60, true);
        x.keep();
        x.see(1, 0, 60, false);
        x.strike(0);
        x.known(2);
        Check.feed(x, "?");
        Check.due("P3 a FAULT behind the IMAGE", x.text(1), -1);
        Check.feed(x, "speed 7;");
        Check.due("P44 back", x.back(), 0);
        Check.due("P45 SEEN stays", x.count(11), 3);
        Check.due("P45 KNOWN stays", x.count(12), 2);
        Check.due("P39 SEEN stays", x.shifts(), 0);
        x.known(-1);
        Check.due("P39 all that was SEEN", x.shifts(), 1022);
        x.keep();
        x.known(1);
        x.back();
        Check.due("P45 KNOWN by one", x.count(12), 1);
        x.keep();
        Check.due("P45 KNOWN by one behind keep", x.count(12), 1);
        Check.due("P45 SEEN behind keep", x.count(11), 3);
        Check.due("P4 the FAULT stays", x.fault(0), 1);
        Check.due("P4 its place stays", x.fault(1), 0);
        Check.due("P2 the TAPE stays", Check.feed(x, "speed 8;"), 40);
        Check.due("P3 the TAPE stays", x.text(28), 2);
        Check.due("P9 of the TAPE", x.beat(), 7);
    }

    /** NONE for another what. */
    private static void counts() {
        int[] others = {-1, 14, 15, MIN, MAX};
        BeatParish x = new BeatParish();
        BeatParish y = Check.parish("man a 9 0;man b 9 0;man c 9 0;tie a b;work p a 60 1 0;work q b 999 1 0;law slip 2 + 3;spring 50;");
        y.go(2);
        y.hiccup(0, 1);
        y.hiccup(1, 9);
        y.aunt(2, true);
        y.shift(-7);
        y.see(1, 0, 0, true);
        y.see(1, 0, 0, true);
        y.known(1);
        int[] none = {0, 0, 0, 0, 0, 200, 0, 0, 0, 0, 0, 0, 0, 0};
        int[] some = {3, 1, 2, 3, 2, 48, -7, 1, 15, 2, 2, 2, 1, 4};
        for (int what = 0; what < 14; what++) {
            Check.due("P45 count(" + what + ") of none", x.count(what), none[what]);
            Check.due("P45 count(" + what + ")", y.count(what), some[what]);
        }
        y.aunt(1, true);
        y.aunt(0, true);
        Check.due("P45 SLIPS of all, who isn't HERE, too", y.count(8), 15);
        Check.due("P45 HICCUPS of nobody", y.count(9), 0);
        Check.due("P45 nobody HERE", y.count(10), 0);
        Check.due("P45 DONE, whose PERSON isn't HERE, too", y.count(7), 1);
        for (int what : others) {
            Check.due("P45 count(" + what + ") of none", x.count(what), -1);
            Check.due("P45 count(" + what + ")", y.count(what), -1);
        }
    }
}
