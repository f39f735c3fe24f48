/** Promises 20 to 22, 25 to 31, 35: what is reckoned from what stands. */
final class ReckonTest {
    private ReckonTest() {
    }

    public static void main(String[] args) {
        bars();
        meet();
        cut();
        rests();
        reaches();
        slowest();
        pack();
        canon();
        strange();
        idle();
        Check.end();
    }

    private static void bars() {
        BeatParish x = Check.parish("man a 9 0;work p a 9 4 0;work q a 9 6 0;work r a 9 1 0;work s a 9 7 0;work t a 9 11 0;"
            + "work u a 9 9 0;work v a 9 8 0;work w a 9 10 0;");
        int[][] due = {{0, 0}, {1, 4}, {2, 6}, {3, 12}, {4, 1}, {15, 84}, {36, 9}, {64 + 1, 8}, {255, 27720}, {256, -1}, {-1, -1}};
        for (int[] one : due) {
            Check.due("P20 bars(" + one[0] + ")", x.bars(one[0]), one[1]);
        }
        x = Check.parish("man a 9 0;work p a 9 4 0;work q a 9 6 0;");
        Check.due("P20 both", x.bars(3), 12);
        Check.due("P20 no such one", x.bars(4), -1);
        Check.due("P20 no such one with one", x.bars(5), -1);
        Check.due("P20 far off", x.bars(1 << 31), -1);
        Check.due("P20 far off, up", x.bars(1 << 30), -1);
    }

    private static void meet() {
        BeatParish x = new BeatParish();
        int[][] due = {{4, 1, 6, 3, 9}, {4, 0, 6, 1, -2}, {2, 10, 3, 0, 12}, {1, 0, 1, 5, 5}, {999, 0, 998, 0, 0},
            {999, 998, 998, 997, 997001 + 999 - 2}, {7, 3, 7, 3, 3}, {7, 3, 7, 10, 10}, {7, 3, 7, 11, -2}, {5, 999, 1, 0, 999},
            {999, 999, 999, 0, 999}, {3, 5, 1, 4, 5}, {1, 1, 999, 0, 999}, {10, 0, 15, 5, 20}, {0, 0, 1, 0, -1},
            {1000, 0, 1, 0, -1}, {1, -1, 1, 0, -1}, {1, 1000, 1, 0, -1}, {1, 0, 0, 0, -1}, {1, 0, 1000, 0, -1},
            {1, 0, 1, -1, -1}, {1, 0, 1, 1000, -1}};
        for (int[] one : due) {
            int want = one[4];
            if (one[0] == 999 && one[1] == 998) {
                want = firstMinute(999, 998, 998, 997);
            }
            Check.due("P21 meet(" + one[0] + ", " + one[1] + ", " + one[2] + ", " + one[3] + ")",
                x.meet(one[0], one[1], one[2], one[3]), want);
        }
    }

    private static int firstMinute(int a, int b, int c, int d) {
        for (int minute = 0; minute < 2000000; minute++) {
            if (minute >= b && minute >= d && (minute - b) % a == 0 && (minute - d) % c == 0) {
                return minute;
            }
        }
        return -2;
    }

    private static void cut() {
        BeatParish x = Check.parish("man a 9 0;man b 9 0;man c 9 0;man d 9 0;man e 9 0;man f 9 0;"
            + "tie a b;tie b d;tie a c;tie c d;tie d e;tie b c;");
        Check.due("P22 two are needed", x.cut(0, 3), 6);
        Check.due("P22 the other way", x.cut(3, 0), 6);
        Check.due("P22 one is enough", x.cut(0, 4), 8);
        Check.due("P22 no row anyway", x.cut(0, 5), 0);
        Check.due("P22 TIED", x.cut(0, 1), -2);
        Check.due("P22 alike", x.cut(2, 2), -1);
        Check.due("P22 no PERSON 6", x.cut(0, 6), -1);
        Check.due("P22 no PERSON -1", x.cut(-1, 0), -1);
        x.aunt(1, true);
        Check.due("P22 the aunt's", x.cut(0, 3), 4);
        Check.due("P22 of several the least", x.cut(0, 4), 4);
        Check.due("P22 not HERE", x.cut(1, 4), -1);
        Check.due("P22 not HERE, the other one", x.cut(4, 1), -1);
        Check.due("P22 TIED, not HERE", x.cut(0, 1), -1);
    }

    private static void rests() {
        BeatParish x = Check.parish("man a 60 0;man b 45 0;man c 100 0;man d 61 0;man e 1 0;man f 199 0;");
        // alike FAST 60: SLOWER is nearer; both lose nothing by it at SPEED 40
        Check.due("P25 a, b", x.rests(0, 1), 1);
        Check.due("P26 a, b", x.rest(0, 1, 0), 0);
        Check.due("P26 no second one", x.rest(0, 1, 1), -2);
        Check.due("P25 c, f", x.rests(2, 5), 1);
        Check.due("P26 c, f both FASTER", x.rest(2, 5, 0), 11);
        // e loses 3, 5, 7 at 40, 60, 80 and so stays SLOWER; f loses 13, 11, 9
        Check.due("P25 e, f", x.rests(4, 5), 1);
        Check.due("P26 e SLOWER, f FASTER", x.rest(4, 5, 0), 1);
        Check.due("P26 f FASTER, e SLOWER", x.rest(5, 4, 0), 10);
        int most = 0;
        for (int one = 0; one < 6; one++) {
            for (int other = 0; other < 6; other++) {
                if (one != other) {
                    most = Math.max(most, x.rests(one, other));
                    Check.due("P26 behind the last", x.rest(one, other, x.rests(one, other)), -2);
                }
            }
        }
        Check.due("P25 no such one", x.rests(0, 6), -1);
        Check.due("P25 no such one ahead", x.rests(-1, 0), -1);
        Check.due("P25 alike", x.rests(3, 3), -1);
        Check.due("P26 alike", x.rest(3, 3, 0), -1);
        Check.due("P26 no such one", x.rest(6, 3, 0), -1);
        Check.due("P26 k -1", x.rest(0, 1, -1), -1);
        Check.due("P26 far k", x.rest(0, 1, 2147483647), -2);
        x.aunt(0, true);
        Check.due("P25 one who isn't HERE", x.rests(0, 1), 1);
        severalRests();
    }

    /** FAST 75 and 45 to 85: SPEED 60 costs the one 0, 40 costs it 1, its word another 1. */
    private static void severalRests() {
        for (int one = 1; one < 200; one += 7) {
            for (int other = 2; other < 200; other += 9) {
                BeatParish x = Check.parish("man a " + one + " 0;man b " + other + " 0;");
                int rests = 0;
                for (int said = 0; said < 4; said++) {
                    int a = said / 2;
                    int b = said % 2;
                    boolean rest = loss(one, a, b) <= loss(one, 1 - a, b) && loss(other, b, a) <= loss(other, 1 - b, a);
                    if (rest) {
                        Check.due("P26 " + one + ", " + other, x.rest(0, 1, rests), 10 * a + b);
                        rests++;
                    }
                }
                Check.due("P25 " + one + ", " + other, x.rests(0, 1), rests);
            }
        }
    }

    private static int loss(int fast, int says, int other) {
        int speed = ((says == 0 ? 40 : 80) + (other == 0 ? 40 : 80)) / 2;
        int loss = 0;
        if (speed > fast) {
            loss += (speed - fast) / 10;
        }
        if (speed < fast - 20) {
            loss += (fast - 20 - speed) / 10;
        }
        return loss + (says == (fast > 60 ? 1 : 0) ? 0 : 1);
    }

    private static void reaches() {
        BeatParish x = Check.parish("man a 9 0;man b 9 0;man c 9 0;man d 9 0;man e 9 0;tie a b;tie b c;tie c d;");
        Check.due("P27 all in a row", x.reaches(0), 15);
        Check.due("P27 from the last", x.reaches(3), 15);
        Check.due("P27 alone", x.reaches(4), 16);
        x.aunt(2, true);
        Check.due("P27 not by one who isn't HERE", x.reaches(0), 3);
        Check.due("P27 not HERE", x.reaches(2), -1);
        Check.due("P27 behind", x.reaches(3), 8);
        Check.due("P27 no PERSON 5", x.reaches(5), -1);
        Check.due("P27 no PERSON -1", x.reaches(-1), -1);
    }

    private static void slowest() {
        BeatParish x = Check.parish("man a 9 0;man b 7 0;man c 7 0;man d 8 0;");
        Check.due("P28 the first of several", x.slowest(), 1);
        x.aunt(1, true);
        Check.due("P28 the second", x.slowest(), 2);
        x.aunt(2, true);
        Check.due("P28 d", x.slowest(), 3);
        x.aunt(3, true);
        Check.due("P28 a", x.slowest(), 0);
        x.aunt(0, true);
        Check.due("P28 nobody", x.slowest(), -2);
        Check.due("P28 nobody told", new BeatParish().slowest(), -2);
    }

    private static void pack() {
        BeatParish x = Check.parish("man a 9 0;man b 9 0;work p a 60 1 0;work q a 50 1 0;work r a 40 1 0;work s a 30 1 0;"
            + "work t b 20 1 0;speed 20;");
        Check.due("P29 100 a DAY", x.pack(100), 2);
        Check.due("P29 99 a DAY", x.pack(99), 3);
        Check.due("P29 60 a DAY", x.pack(60), 4);
        Check.due("P29 70 a DAY", x.pack(70), 3);
        Check.due("P29 59 a DAY", x.pack(59), -2);
        Check.due("P29 200 a DAY", x.pack(200), 1);
        Check.due("P29 199 a DAY", x.pack(199), 2);
        Check.due("P29 9999 a DAY", x.pack(9999), 1);
        Check.due("P29 10000", x.pack(10000), -1);
        Check.due("P29 0", x.pack(0), -1);
        Check.due("P29 -1", x.pack(-1), -1);
        x.aunt(0, true);
        Check.due("P29 at the aunt's, too", x.pack(100), 2);
        x.aunt(0, false);
        x.go(1);
        Check.due("P29 what is left: 40 30 20 10", x.pack(50), 2);
        Check.due("P29 what is left in one", x.pack(100), 1);
        x.go(2);
        Check.due("P29 all are DONE", x.pack(1), 0);
        Check.due("P29 all are DONE, 0", x.pack(0), -1);
        x = Check.parish("man a 9 0;work p a 999 1 0;work q a 999 1 0;work r a 999 1 0;work s a 999 1 0;work t a 999 1 0;"
            + "work u a 999 1 0;work v a 999 1 0;work w a 999 1 0;");
        Check.due("P29 999 a DAY", x.pack(999), 8);
        Check.due("P29 1998 a DAY", x.pack(1998), 4);
        Check.due("P29 7991 a DAY", x.pack(7991), 2);
        Check.due("P29 7992 a DAY", x.pack(7992), 1);
        x = Check.parish("man a 9 0;work p a 6 1 0;work q a 5 1 0;work r a 5 1 0;work s a 4 1 0;work t a 4 1 0;"
            + "work u a 3 1 0;work v a 3 1 0;");
        Check.due("P29 largest first would take 4", x.pack(10), 3);
    }

    private static void canon() {
        BeatParish x = Check.parish("man a 9 0;work p a 100 4 0;work q a 90 3 0;work r a 300 7 0;work s a 99 5 0;speed 50;");
        Check.due("P30 p, q", x.canon(0, 1), 12);
        Check.due("P30 q, p", x.canon(1, 0), 0);
        Check.due("P30 r, q", x.canon(2, 1), 210);
        Check.due("P30 r, p", x.canon(2, 0), 203);
        Check.due("P30 p, s", x.canon(0, 3), 4);
        Check.due("P30 alike", x.canon(1, 1), -1);
        Check.due("P30 no WORK 4", x.canon(0, 4), -1);
        Check.due("P30 no WORK -1", x.canon(-1, 0), -1);
        x.go(3);
        Check.due("P30 by BEATS told", x.canon(2, 1), 210);
    }

    private static void strange() {
        BeatParish x = Check.parish("man a 49 0;man b 50 0;man c 51 0;work p a 99 1 0;work q c 99 1 0;speed 50;wasp 100;"
            + "law slip 5;");
        Check.due("P31 strangers", x.strange(0, 0), 1);
        Check.due("P31 in love", x.strange(0, 1), 6);
        Check.due("P31 what 2", x.strange(0, 2), -1);
        Check.due("P31 what -1", x.strange(0, -1), -1);
        Check.due("P31 -1", x.strange(-1, 0), -1);
        Check.due("P31 10000", x.strange(10000, 0), -1);
        Check.due("P31 9999", x.strange(9999, 0), 0);
        x.go(1);
        Check.due("P31 strangers with 5", x.strange(5, 0), 1);
        Check.due("P31 in love with 5", x.strange(5, 1), 4);
        Check.due("P31 in love with 6", x.strange(6, 1), 0);
        x.shift(2);
        Check.due("P31 BEAT 52", x.strange(1, 0), 5);
        x.aunt(0, true);
        Check.due("P31 HERE", x.strange(0, 0), 6);
    }

    private static void idle() {
        BeatParish x = Check.parish("man a 9 0;man b 9 0;man c 9 0;work p a 50 1 0;work q b 60 1 0;work r b 40 1 0;speed 50;");
        Check.due("P35 without a WORK", x.idle(), 4);
        x.go(1);
        Check.due("P35 DONE", x.idle(), 5);
        x.aunt(0, true);
        Check.due("P35 HERE", x.idle(), 4);
        x.go(1);
        Check.due("P35 both DONE", x.idle(), 6);
    }
}
