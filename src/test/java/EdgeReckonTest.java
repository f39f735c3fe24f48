/** Promises 20 to 22, 25 to 31, 35: none, one, all, one more; both ends of each number. */
final class EdgeReckonTest {
    private static final int MIN = Integer.MIN_VALUE;
    private static final int MAX = Integer.MAX_VALUE;
    private static final String SIX = "man a 9 0;man b 9 0;man c 9 0;man d 9 0;man e 9 0;man f 9 0;";

    private EdgeReckonTest() {
    }

    public static void main(String[] args) {
        bars();
        barsOfTwo();
        meetLimits();
        meetNever();
        cutLimits();
        cutOf();
        bargains();
        restLimits();
        reaches();
        slowest();
        packLimits();
        packOf();
        canonLimits();
        canonOf();
        strange();
        strangers();
        idle();
        Check.end();
    }

    /** BARS (0 for none); NONE: no such WORKS. */
    private static void bars() {
        int[] told = {1, 2, 3, 4, 5, 7, 11, 12};
        StringBuilder text = new StringBuilder("man a 9 0;");
        for (int works = 0; works <= 8; works++) {
            BeatParish x = Check.parish(text.toString());
            Check.due("P20 none of " + works, x.bars(0), 0);
            for (int work = 0; work < works; work++) {
                Check.due("P20 one of " + works, x.bars(1 << work), told[work]);
            }
            for (int work = works; work < 32; work++) {
                Check.due("P20 no WORK " + work + " of " + works, x.bars(1 << work), -1);
                Check.due("P20 no WORK " + work + " of " + works + " with one", x.bars(1 << work | 1), -1);
            }
            int[] none = {-1, 1 << works, MIN, MAX, -256, 256 | (1 << works) - 1};
            for (int bits : none) {
                Check.due("P20 bars(" + bits + ") of " + works, x.bars(bits), -1);
            }
            if (works < 8) {
                text.append("work ").append((char) ('p' + works)).append(" a 1 ").append(told[works]).append(" 0;");
            }
        }
        BeatParish x = Check.parish(text.toString());
        Check.due("P20 all eight", x.bars(255), 4620);
        Check.due("P20 all but 11", x.bars(255 - 64), 420);
        Check.due("P20 2 and 3", x.bars(6), 6);
        Check.due("P20 2, 4 and 12", x.bars(2 + 8 + 128), 12);
        x.go(1);
        Check.due("P20 all are DONE, too", x.bars(255), 4620);
    }

    private static void barsOfTwo() {
        for (int one = 1; one <= 12; one++) {
            for (int other = 1; other <= 12; other++) {
                BeatParish x = Check.parish("man a 9 0;work p a 9 " + one + " 0;work q a 9 " + other + " 99;");
                int beats = 1;
                while (beats % one != 0 || beats % other != 0) {
                    beats++;
                }
                Check.due("P20 " + one + " and " + other, x.bars(3), beats);
            }
        }
    }

    /** MEET (a, c 1 .. 999, b, d 0 .. 999). */
    private static void meetLimits() {
        BeatParish x = new BeatParish();
        int[] none = {-1, 1000, 1001, MIN, MAX};
        for (int number : none) {
            Check.due("P21 a is " + number, x.meet(number, 5, 5, 5), -1);
            Check.due("P21 b is " + number, x.meet(5, number, 5, 5), -1);
            Check.due("P21 c is " + number, x.meet(5, 5, number, 5), -1);
            Check.due("P21 d is " + number, x.meet(5, 5, 5, number), -1);
        }
        Check.due("P21 a is 0", x.meet(0, 5, 5, 5), -1);
        Check.due("P21 c is 0", x.meet(5, 5, 0, 5), -1);
        Check.due("P21 a 0 and never", x.meet(0, 5, 2, 4), -1);
        int[][] due = {{1, 0, 1, 0, 0}, {999, 0, 999, 0, 0}, {1, 999, 1, 999, 999}, {1, 0, 1, 999, 999}, {1, 999, 1, 0, 999},
            {999, 999, 999, 999, 999}, {999, 999, 999, 0, 999}, {999, 0, 999, 999, 999}, {999, 0, 999, 998, -2},
            {2, 999, 2, 998, -2}, {1, 500, 999, 0, 999}, {999, 0, 1, 500, 999}, {999, 1, 1, 999, 1000}, {998, 0, 999, 0, 0},
            {6, 1, 4, 3, 7}, {6, 7, 4, 3, 7}, {6, 8, 4, 3, -2}, {7, 10, 5, 10, 10}, {7, 10, 5, 11, 31}, {7, 11, 5, 10, 25}};
        for (int[] one : due) {
            Check.due("P21 meet(" + one[0] + ", " + one[1] + ", " + one[2] + ", " + one[3] + ")",
                x.meet(one[0], one[1], one[2], one[3]), one[4]);
        }
        int[][] far = {{998, 1, 999, 0}, {999, 2, 998, 0}, {999, 0, 998, 999}, {999, 999, 998, 0}, {998, 997, 999, 999}};
        for (int[] one : far) {
            Check.due("P21 meet(" + one[0] + ", " + one[1] + ", " + one[2] + ", " + one[3] + ")",
                x.meet(one[0], one[1], one[2], one[3]), firstMinute(one[0], one[1], one[2], one[3]));
        }
    }

    private static int firstMinute(int a, int b, int c, int d) {
        for (int minute = Math.max(b, d); minute < 2000000; minute++) {
            if ((minute - b) % a == 0 && (minute - d) % c == 0) {
                return minute;
            }
        }
        return -2;
    }

    private static void meetNever() {
        for (int a = 1; a <= 12; a++) {
            for (int c = 1; c <= 12; c++) {
                BeatParish x = new BeatParish();
                for (int b = 0; b <= 13; b++) {
                    for (int d = 0; d <= 13; d += 1 + b % 2) {
                        Check.due("P21 meet(" + a + ", " + b + ", " + c + ", " + d + ")", x.meet(a, b, c, d),
                            firstMinuteWithin(a, b, c, d, 300));
                    }
                }
            }
        }
    }

    private static int firstMinuteWithin(int a, int b, int c, int d, int most) {
        for (int minute = 0; minute < most; minute++) {
            boolean one = minute >= b && (minute - b) % a == 0;
            boolean other = minute >= d && (minute - d) % c == 0;
            if (one && other) {
                return minute;
            }
        }
        return -2;
    }

    /** -2: they are TIED themselves; NONE: no such ones, alike, not HERE. */
    private static void cutLimits() {
        BeatParish x = Check.parish("man a 9 0;man b 9 0;man c 9 0;tie a b;");
        int[] none = {-1, 3, 6, MIN, MAX};
        for (int man : none) {
            Check.due("P22 cut(" + man + ", 0)", x.cut(man, 0), -1);
            Check.due("P22 cut(0, " + man + ")", x.cut(0, man), -1);
            Check.due("P22 cut(" + man + ", " + man + ")", x.cut(man, man), -1);
        }
        for (int man = 0; man < 3; man++) {
            Check.due("P22 alike " + man, x.cut(man, man), -1);
        }
        Check.due("P22 TIED", x.cut(0, 1), -2);
        Check.due("P22 TIED, the other way", x.cut(1, 0), -2);
        Check.due("P22 not TIED, none needed", x.cut(0, 2), 0);
        x.aunt(1, true);
        Check.due("P22 NONE goes ahead of -2", x.cut(0, 1), -1);
        Check.due("P22 NONE goes ahead of -2, the other way", x.cut(1, 0), -1);
        Check.due("P22 not HERE", x.cut(1, 2), -1);
        Check.due("P22 not HERE, the other one", x.cut(2, 1), -1);
        Check.due("P22 nobody is told", new BeatParish().cut(0, 1), -1);
    }

    /** The fewest others HERE (bits, of several the least). */
    private static void cutOf() {
        BeatParish x = Check.parish(SIX + "tie a b;tie a c;tie a d;tie a e;tie b f;tie c f;tie d f;tie e f;");
        Check.due("P22 all others", x.cut(0, 5), 30);
        Check.due("P22 all others, the other way", x.cut(5, 0), 30);
        Check.due("P22 two of the row", x.cut(1, 2), 33);
        x.aunt(3, true);
        Check.due("P22 all others HERE", x.cut(0, 5), 22);
        x.aunt(4, true);
        x.aunt(2, true);
        Check.due("P22 the only one HERE", x.cut(0, 5), 2);
        x.aunt(1, true);
        Check.due("P22 none HERE", x.cut(0, 5), 0);
        x = Check.parish(SIX + "tie a b;tie b c;tie c d;tie d e;tie e f;");
        Check.due("P22 of several the least", x.cut(0, 5), 2);
        Check.due("P22 of several the least, the other way", x.cut(5, 0), 2);
        Check.due("P22 of several the least, b and f", x.cut(1, 5), 4);
        Check.due("P22 a and c", x.cut(0, 2), 2);
        x = Check.parish(SIX + "tie a f;tie f b;tie a e;tie e d;tie d b;");
        Check.due("P22 two, of several the least", x.cut(0, 1), 32 + 8);
        x = Check.parish(SIX + "tie a c;tie a d;tie c e;tie d e;tie e b;");
        Check.due("P22 one higher rather than two lower", x.cut(0, 1), 16);
        Check.due("P22 the one alone", x.cut(5, 0), 0);
    }

    /** All FASTS 1 .. 199 of both, six PEOPLE at a time. */
    private static void bargains() {
        boolean[] seen = new boolean[5];
        for (int from = 1; from <= 199; from += 5) {
            for (int other = 1; other <= 199; other++) {
                StringBuilder text = new StringBuilder("man z " + other + " 0;");
                for (int k = 0; k < 5 && from + k <= 199; k++) {
                    text.append("man ").append((char) ('a' + k)).append(' ').append(from + k).append(" 0;");
                }
                BeatParish x = Check.parish(text.toString());
                for (int k = 0; k < 5 && from + k <= 199; k++) {
                    int rests = rests(x, k + 1, 0, from + k, other);
                    seen[rests] = true;
                }
            }
        }
        for (int rests = 0; rests < 5; rests++) {
            Check.due("P25 some have " + rests, seen[rests], rests > 0 && rests < 4);
        }
    }

    private static int rests(BeatParish x, int one, int other, int fast, int otherFast) {
        int rests = 0;
        for (int said = 0; said < 2; said++) {
            for (int otherSaid = 0; otherSaid < 2; otherSaid++) {
                boolean rest = loss(fast, said, otherSaid) <= loss(fast, 1 - said, otherSaid)
                    && loss(otherFast, otherSaid, said) <= loss(otherFast, 1 - otherSaid, said);
                if (rest) {
                    Check.due("P26 FAST " + fast + " and " + otherFast + ", " + rests, x.rest(one, other, rests),
                        10 * said + otherSaid);
                    rests++;
                }
            }
        }
        Check.due("P25 FAST " + fast + " and " + otherFast, x.rests(one, other), rests);
        Check.due("P26 FAST " + fast + " and " + otherFast + ", no more", x.rest(one, other, rests), -2);
        return rests;
    }

    private static int loss(int fast, int said, int otherSaid) {
        int[] speeds = {40, 80};
        int mean = (speeds[said] + speeds[otherSaid]) / 2;
        int loss = 0;
        for (int k = fast + 10; k <= mean; k += 10) {
            loss++;
        }
        for (int k = fast - 20 - 10; k >= mean; k -= 10) {
            loss++;
        }
        boolean fasterIsNearer = fast > 60;
        return (said == 1) == fasterIsNearer ? loss : loss + 1;
    }

    /** NONE: no such ones, alike; k below 0; -2: there are no so many. */
    private static void restLimits() {
        BeatParish x = Check.parish("man a 60 0;man b 61 0;man c 59 0;");
        int[] none = {-1, 3, 6, MIN, MAX};
        for (int man : none) {
            Check.due("P25 rests(" + man + ", 0)", x.rests(man, 0), -1);
            Check.due("P25 rests(0, " + man + ")", x.rests(0, man), -1);
            Check.due("P25 rests(" + man + ", " + man + ")", x.rests(man, man), -1);
            Check.due("P26 rest(" + man + ", 0, 0)", x.rest(man, 0, 0), -1);
            Check.due("P26 rest(0, " + man + ", 0)", x.rest(0, man, 0), -1);
            Check.due("P26 rest(0, " + man + ", 9)", x.rest(0, man, 9), -1);
        }
        for (int man = 0; man < 3; man++) {
            Check.due("P25 alike " + man, x.rests(man, man), -1);
            Check.due("P26 alike " + man, x.rest(man, man, 0), -1);
            Check.due("P26 alike and no so many " + man, x.rest(man, man, 4), -1);
        }
        int[] below = {-1, -2, MIN};
        for (int k : below) {
            Check.due("P26 k " + k, x.rest(0, 1, k), -1);
        }
        int rests = x.rests(0, 1);
        int[] beyond = {rests, rests + 1, 4, 5, MAX};
        for (int k : beyond) {
            Check.due("P26 k " + k, x.rest(0, 1, k), -2);
        }
        // at 60 alike: SLOWER; at 61 FASTER, which loses 1 less than SLOWER and by SPEED 60, 80 nothing more
        Check.due("P26 60 and 59 are SLOWER", x.rest(0, 2, 0), 0);
        Check.due("P26 60 SLOWER, 61 FASTER", x.rest(0, 1, 0), 1);
        Check.due("P26 61 FASTER, 60 SLOWER", x.rest(1, 0, 0), 10);
        x.aunt(0, true);
        Check.due("P26 one who isn't HERE", x.rest(0, 1, 0), 1);
        Check.due("P25 nobody is told", new BeatParish().rests(0, 1), -1);
        Check.due("P26 nobody is told", new BeatParish().rest(0, 1, 0), -1);
    }

    /** PEOPLE HERE whom HICCUPS of a PERSON HERE could reach (that one, too). */
    private static void reaches() {
        BeatParish x = Check.parish(SIX + "tie a b;tie b c;tie c d;tie d e;tie e f;tie f a;");
        int[] none = {-1, 6, 7, MIN, MAX};
        for (int man : none) {
            Check.due("P27 reaches(" + man + ")", x.reaches(man), -1);
        }
        for (int man = 0; man < 6; man++) {
            Check.due("P27 all of " + man, x.reaches(man), 63);
        }
        x.aunt(2, true);
        Check.due("P27 round the other way", x.reaches(1), 59);
        x.aunt(4, true);
        Check.due("P27 a part", x.reaches(0), 35);
        Check.due("P27 that one alone", x.reaches(3), 8);
        Check.due("P27 not HERE", x.reaches(4), -1);
        x.aunt(4, false);
        Check.due("P27 HERE again", x.reaches(4), 59);
        x.hiccup(0, 9);
        Check.due("P27 whoever has them", x.reaches(4), 59);
        x = Check.parish(SIX);
        for (int man = 0; man < 6; man++) {
            Check.due("P27 without TIES " + man, x.reaches(man), 1 << man);
        }
        Check.due("P27 nobody is told", new BeatParish().reaches(0), -1);
        // a row that runs to and fro among the numbers
        x = Check.parish(SIX + "tie a f;tie f b;tie b e;tie e c;tie c d;");
        for (int man = 0; man < 6; man++) {
            Check.due("P27 to and fro " + man, x.reaches(man), 63);
        }
    }

    /** Least FAST, the first of several; -2: nobody is. */
    private static void slowest() {
        Check.due("P28 nobody is told", new BeatParish().slowest(), -2);
        BeatParish x = Check.parish("man a 1 0;man b 199 0;man c 1 0;man d 2 0;");
        Check.due("P28 the first is", x.slowest(), 0);
        x.aunt(0, true);
        Check.due("P28 the first HERE", x.slowest(), 2);
        x.aunt(2, true);
        Check.due("P28 the next", x.slowest(), 3);
        x.aunt(3, true);
        Check.due("P28 199", x.slowest(), 1);
        x.aunt(1, true);
        Check.due("P28 nobody is HERE", x.slowest(), -2);
        x.aunt(3, false);
        Check.due("P28 the only one", x.slowest(), 3);
        for (int man = 0; man < 6; man++) {
            StringBuilder text = new StringBuilder();
            for (int k = 0; k < 6; k++) {
                text.append("man ").append((char) ('a' + k)).append(k == man ? " 7 0;" : " 8 0;");
            }
            x = Check.parish(text.toString());
            Check.due("P28 " + man, x.slowest(), man);
            x.hiccup(man, 5);
            Check.due("P28 with HICCUPS " + man, x.slowest(), man);
            x.aunt(man, true);
            Check.due("P28 without " + man, x.slowest(), man == 0 ? 1 : 0);
        }
    }

    /** PACK (1 .. 9999 beats a DAY). */
    private static void packLimits() {
        BeatParish x = Check.parish("man a 9 0;work p a 1 1 0;work q a 1 1 50;work r a 999 1 0;speed 1;spring 999;");
        int[] none = {-1, 0, 10000, 10001, MIN, MAX};
        for (int beats : none) {
            Check.due("P29 pack(" + beats + ")", x.pack(beats), -1);
            Check.due("P29 pack(" + beats + ") of none", new BeatParish().pack(beats), -1);
        }
        int[] any = {1, 2, 9998, 9999};
        for (int beats : any) {
            Check.due("P29 pack(" + beats + ") of none", new BeatParish().pack(beats), 0);
        }
        int[][] due = {{1, -2}, {998, -2}, {999, 2}, {1000, 2}, {1001, 1}, {9999, 1}};
        for (int[] one : due) {
            Check.due("P29 pack(" + one[0] + ")", x.pack(one[0]), one[1]);
        }
        x.go(1);
        Check.due("P29 999 an HOUR later", x.pack(999), 1);
        Check.due("P29 998 an HOUR later", x.pack(998), 2);
        Check.due("P29 997 an HOUR later", x.pack(997), -2);
        x = Check.parish("man a 9 0;work p a 5 1 0;");
        Check.due("P29 one in 5", x.pack(5), 1);
        Check.due("P29 one in 4", x.pack(4), -2);
        x.go(1);
        Check.due("P29 all are DONE", x.pack(1), 0);
        Check.due("P29 NONE goes ahead of 0", x.pack(0), -1);
        Check.due("P29 NONE goes ahead of 0, 10000", x.pack(10000), -1);
    }

    private static void packOf() {
        StringBuilder text = new StringBuilder("man a 9 0;");
        for (int many = 1; many <= 8; many++) {
            text.append("work ").append((char) ('o' + many)).append(" a 100 1 99;");
            BeatParish x = Check.parish(text.toString());
            for (int room = 1; room <= 9; room++) {
                int days = (many + room - 1) / room;
                Check.due("P29 " + many + " by " + room, x.pack(100 * room), days);
                Check.due("P29 " + many + " by " + room + " and 99", x.pack(100 * room + 99), days);
                Check.due("P29 " + many + " by less than " + room, x.pack(100 * room - 1), room == 1 ? -2
                    : (many + room - 2) / (room - 1));
            }
        }
        // 4 8 and 5 7 and 6 6: taken in turn, the first room or the largest first would need more
        BeatParish x = Check.parish("man a 9 0;work p a 4 1 0;work q a 5 1 0;work r a 6 1 0;work s a 6 1 0;work t a 7 1 0;"
            + "work u a 8 1 0;");
        Check.due("P29 three of 12", x.pack(12), 3);
        Check.due("P29 four of 11", x.pack(11), 4);
        Check.due("P29 two of 18", x.pack(18), 2);
        Check.due("P29 three of 17", x.pack(17), 3);
        Check.due("P29 two of 35", x.pack(35), 2);
        Check.due("P29 one of 36", x.pack(36), 1);
    }

    /** NONE: no such WORKS, alike. */
    private static void canonLimits() {
        BeatParish x = Check.parish("man a 9 0;work p a 9 3 0;work q a 9 3 0;");
        int[] none = {-1, 2, 8, MIN, MAX};
        for (int work : none) {
            Check.due("P30 canon(" + work + ", 0)", x.canon(work, 0), -1);
            Check.due("P30 canon(0, " + work + ")", x.canon(0, work), -1);
            Check.due("P30 canon(" + work + ", " + work + ")", x.canon(work, work), -1);
        }
        Check.due("P30 alike 0", x.canon(0, 0), -1);
        Check.due("P30 alike 1", x.canon(1, 1), -1);
        Check.due("P30 none is told", new BeatParish().canon(0, 1), -1);
    }

    /** The least multiple of the first one's BAR, so that it doesn't end ahead of it. */
    private static void canonOf() {
        int[][] lengths = {{9, 9}, {9, 10}, {10, 9}, {12, 9}, {13, 9}, {999, 1}, {1, 999}, {1, 1}, {2, 1}, {100, 4}, {101, 5}};
        for (int bar = 1; bar <= 12; bar++) {
            for (int[] one : lengths) {
                BeatParish x = Check.parish("man a 9 0;work p a " + one[0] + " " + bar + " 0;work q a " + one[1] + " 5 30;speed 3;");
                int begin = 0;
                while (begin + one[1] < one[0]) {
                    begin += bar;
                }
                Check.due("P30 " + one[0] + ", " + one[1] + " by " + bar, x.canon(0, 1), begin);
                int other = 0;
                while (other + one[0] < one[1]) {
                    other += 5;
                }
                Check.due("P30 " + one[1] + ", " + one[0] + " by 5", x.canon(1, 0), other);
                x.go(3);
                Check.due("P30 by BEATS told, " + one[0] + ", " + one[1], x.canon(0, 1), begin);
            }
        }
    }

    /** So many SLIPS 0 .. 9999 at least. */
    private static void strange() {
        BeatParish x = Check.parish("man a 9 0;man b 99 0;man c 60 0;work p a 99 1 0;work q b 999 1 0;speed 60;law slip 3;spring 999;");
        int[] none = {-1, 10000, 10001, MIN, MAX};
        for (int slips : none) {
            Check.due("P31 strange(" + slips + ", 0)", x.strange(slips, 0), -1);
            Check.due("P31 strange(" + slips + ", 1)", x.strange(slips, 1), -1);
        }
        int[] others = {-1, 2, 3, MIN, MAX};
        for (int what : others) {
            Check.due("P31 strange(0, " + what + ")", x.strange(0, what), -1);
        }
        Check.due("P31 0, strangers", x.strange(0, 0), 1);
        Check.due("P31 0, in love", x.strange(0, 1), 6);
        Check.due("P31 1, strangers", x.strange(1, 0), 0);
        Check.due("P31 1, in love", x.strange(1, 1), 0);
        x.go(1);
        for (int slips = 0; slips <= 5; slips++) {
            Check.due("P31 strangers of " + slips, x.strange(slips, 0), slips <= 3 ? 1 : 0);
            Check.due("P31 in love of " + slips, x.strange(slips, 1), slips == 0 ? 6 : slips <= 3 ? 2 : 0);
        }
        x = Check.parish("man a 9 0;work p a 999 1 0;work q a 999 1 0;work r a 999 1 0;speed 1;spring 999;law slip 99;law wear 0;");
        x.go(33);
        Check.due("P31 9801 had", x.count(8), 9801);
        Check.due("P31 9801", x.strange(9801, 1), 1);
        Check.due("P31 9802", x.strange(9802, 1), 0);
        x.go(1);
        Check.due("P31 9999", x.strange(9999, 1), 1);
        Check.due("P31 10000 of 10098", x.strange(10000, 1), -1);
    }

    /** Strangers, whose FAST is below BEAT now (without WASPS). */
    private static void strangers() {
        BeatParish x = Check.parish("man a 59 0;man b 60 0;man c 61 0;man d 1 0;man e 199 0;wasp 100;spring 1;");
        Check.due("P31 BEAT 60", x.strange(0, 0), 9);
        Check.due("P31 BEAT 60, in love", x.strange(0, 1), 22);
        x.shift(1);
        Check.due("P31 BEAT 61", x.strange(0, 0), 11);
        x.shift(2);
        Check.due("P31 BEAT 62", x.strange(0, 0), 15);
        x.shift(-1);
        Check.due("P31 BEAT 59", x.strange(0, 0), 8);
        x.shift(-99);
        Check.due("P31 BEAT 1", x.strange(0, 0), 0);
        Check.due("P31 BEAT 1, in love", x.strange(0, 1), 31);
        x.shift(99);
        Check.due("P31 BEAT 159", x.strange(0, 0), 15);
        x.aunt(0, true);
        x.aunt(4, true);
        Check.due("P31 HERE, strangers", x.strange(0, 0), 14);
        Check.due("P31 HERE, in love", x.strange(0, 1), 0);
        x.aunt(4, false);
        x.go(1);
        Check.due("P31 COIL 0", x.strange(0, 0), 0);
        Check.due("P31 COIL 0, in love", x.strange(0, 1), 30);
        Check.due("P31 nobody is told", new BeatParish().strange(0, 1), 0);
    }

    /** PEOPLE HERE who have no WORK that isn't DONE. */
    private static void idle() {
        Check.due("P35 nobody is told", new BeatParish().idle(), 0);
        Check.due("P35 no WORKS", Check.parish(SIX).idle(), 63);
        BeatParish x = Check.parish(SIX + "work p a 60 1 0;work q b 61 1 0;work r c 60 1 1;work s f 1 1 0;work t f 60 1 0;work u a 999 1 99;"
            + "work v e 1 1 0;");
        Check.due("P35 none DONE", x.idle(), 8);
        x.go(1);
        Check.due("P35 behind 1", x.idle(), 8 + 16 + 32);
        x.go(1);
        Check.due("P35 behind 2", x.idle(), 2 + 4 + 8 + 16 + 32);
        x.hiccup(1, 3);
        Check.due("P35 with HICCUPS", x.idle(), 62);
        x.aunt(1, true);
        Check.due("P35 not HERE", x.idle(), 60);
        x.aunt(0, true);
        Check.due("P35 not HERE, at work", x.idle(), 60);
    }
}
