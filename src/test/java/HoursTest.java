/** Promises 6 to 15: man, work, tie, beat, law, the calls that change something, go. */
final class HoursTest {
    private HoursTest() {
    }

    public static void main(String[] args) {
        told();
        beats();
        laws();
        values();
        errors();
        changes();
        working();
        wasps();
        hiccups();
        wear();
        lastHours();
        Check.end();
    }

    private static void told() {
        BeatParish x = Check.parish("man a 60 20;man b 45 0;man c 1 99;tie a b;work p b 90 3 7;work q a 9 12 0;");
        Check.due("P6 FAST", Check.man(x, 0, 0), 60);
        Check.due("P6 AGED", Check.man(x, 2, 1), 99);
        Check.due("P6 SLIPS", Check.man(x, 0, 2), 0);
        Check.due("P6 HICCUPS", Check.man(x, 0, 3), 0);
        Check.due("P6 HERE", Check.man(x, 0, 4), 1);
        Check.due("P6 DONE", Check.man(x, 0, 5), 0);
        Check.due("P6 no such what", Check.man(x, 0, 6), -200);
        Check.due("P6 no what -1", Check.man(x, 2, -1), -200);
        Check.due("P6 no such man", Check.man(x, 3, 0), -100);
        Check.due("P6 no man -1", Check.man(x, -1, 0), -100);
        Check.due("P6 neither", Check.man(x, 3, 6), -100);
        int[][] due = {{1, 90, 3, 7, 90, -1, -1}, {0, 9, 12, 0, 9, -1, -1}};
        for (int work = 0; work < 2; work++) {
            for (int what = 0; what < 7; what++) {
                Check.due("P7 work(" + work + ", " + what + ")", x.work(work, what), due[work][what]);
            }
        }
        Check.due("P7 no what -1", x.work(0, -1), -1);
        Check.due("P7 no WORK 2", x.work(2, 0), -1);
        Check.due("P7 no WORK -1", x.work(-1, 0), -1);
        Check.due("P8 TIED", x.tie(0, 1), 1);
        Check.due("P8 the other way", x.tie(1, 0), 1);
        Check.due("P8 not TIED", x.tie(0, 2), 0);
        Check.due("P8 with oneself", x.tie(1, 1), 0);
        Check.due("P8 no PERSON 3", x.tie(0, 3), -1);
        Check.due("P8 no PERSON 3 ahead", x.tie(3, 0), -1);
        Check.due("P8 no PERSON -1", x.tie(-1, 0), -1);
        Check.due("P8 no PERSON 3 at all", x.tie(3, 3), -1);
        x.go(2);
        Check.due("P6 DONE by now", Check.man(x, 0, 5), 1);
        Check.due("P6 not that of another", Check.man(x, 1, 5), 0);
        Check.due("P7 in HOUR 0", x.work(1, 5), 0);
    }

    private static void beats() {
        BeatParish x = Check.parish("speed 50;speed 70;speed 190;spring 5;wasp 100;");
        int[] due = {50, 70, 190, 50, 70, 0, 0};
        for (int hour = 0; hour < due.length; hour++) {
            Check.due("P9 BEAT of " + hour, x.beat(), due[hour]);
            x.go(1);
        }
        x = Check.parish("speed 150;");
        x.shift(99);
        Check.due("P9 at most 199", x.beat(), 199);
        x.shift(-99);
        Check.due("P9 less", x.beat(), 51);
        x = Check.parish("speed 9;");
        x.shift(-9);
        Check.due("P9 at least 1", x.beat(), 1);
        Check.due("P9 COIL 0", Check.parish("spring 0;").beat(), 0);
        Check.due("P9 SPEED without", Check.parish("").beat(), 60);
    }

    private static void laws() {
        BeatParish x = Check.parish("man a 50 40;man b 30 7;work p a 200 1 0;work q b 300 5 9;speed 33;wasp 100;"
            + "law slip beat + fast * 1000 + aged * 1000 * 1000;law hush left + bar + aged * 10 + beat;spring 77;");
        Check.due("P10 slip of p", x.law(0, 0), 33 + 50000 + 40000000);
        Check.due("P10 slip of q", x.law(0, 1), 33 + 30000 + 7000000);
        Check.due("P10 no WORK 2", x.law(0, 2), Long.MIN_VALUE);
        Check.due("P10 no WORK -1", x.law(0, -1), Long.MIN_VALUE);
        Check.due("P10 hush of a", x.law(2, 0), 400 + 33);
        Check.due("P10 hush of b", x.law(2, 1), 70 + 33);
        Check.due("P10 no PERSON 2", x.law(2, 2), Long.MIN_VALUE);
        Check.due("P10 no PERSON -1", x.law(2, -1), Long.MIN_VALUE);
        Check.due("P10 no law of wear", x.law(1, 0), Long.MIN_VALUE);
        Check.due("P10 what 3", x.law(3, 0), Long.MIN_VALUE);
        Check.due("P10 what -1", x.law(-1, 0), Long.MIN_VALUE);
        x.aunt(1, true);
        Check.due("P10 of one who isn't HERE", x.law(2, 1), 103);
        x = Check.parish("man a 50 40;work p a 200 7 0;law slip left * 10 + bar;"
            + "law wear coil + hour * 1000 + fast + aged + left + bar + beat * 2000 * 5;speed 2;");
        Check.due("P10 left and bar", x.law(0, 0), 2007);
        Check.due("P10 wear, whatever the number", x.law(1, -5), 200 + 20000);
        x.go(1);
        Check.due("P10 left later", x.law(0, 0), 1987);
        Check.due("P10 wear later", x.law(1, 99), 101 + 1000 + 20000);
        x.wind(1);
        x.shift(1);
        Check.due("P10 wear by call", x.law(1, 0), 102 + 1000 + 30000);
    }

    private static void values() {
        value("7", 7);
        value("2 + 3 * 4", 14);
        value("(2 + 3) * 4", 20);
        value("9 - 3 - 2", 4);
        value("100 / 10 / 3", 3);
        value("7 / 2 * 2", 6);
        value("(0 - 7) / 2", -3);
        value("7 / (0 - 2)", -3);
        value("1 < 2", 1);
        value("2 < 2", 0);
        value("2 <= 2", 1);
        value("3 <= 2", 0);
        value("2 = 2", 1);
        value("2 = 3", 0);
        value("2 <> 3", 1);
        value("2 <> 2", 0);
        value("2 >= 2", 1);
        value("1 >= 2", 0);
        value("3 > 2", 1);
        value("2 > 2", 0);
        value("5 and 7", 1);
        value("5 and 0", 0);
        value("0 or 9", 1);
        value("0 or 0", 0);
        value("0 - 1 or 0", 1);
        value("not 5", 0);
        value("not 0", 1);
        value("not not 5", 1);
        value("not 1 = 2", 1);
        value("1 or 0 and 0", 1);
        value("(1 or 0) and 0", 0);
        value("not 0 and 0", 0);
        value("1 + 1 = 2", 1);
        value("1 <2 or 3> 4", 1);
        value("9999 * 9999 * 9999", 999700029999L);
        value("9999 * 9999 * 10000 / 9999", Long.MAX_VALUE);
    }

    private static void value(String e, long due) {
        BeatParish x = new BeatParish();
        int lines = Check.tell(x, "law wear " + e + ";");
        if (due == Long.MAX_VALUE) {
            Check.due("N beyond 9999 in " + e, lines, -1);
        } else {
            Check.due("P10 " + e, x.law(1, 0), due);
        }
    }

    private static void errors() {
        String billion = "1000 * 1000 * 1000";
        value(billion + " * 1000", 1000000000000L);
        value("0 - " + billion + " * 1000", -1000000000000L);
        value(billion + " * 1000 + 1", Long.MIN_VALUE);
        value(billion + " * 1000 + 1 - 1", Long.MIN_VALUE);
        value("0 - " + billion + " * 1000 - 1", Long.MIN_VALUE);
        value(billion + " * 1001", Long.MIN_VALUE);
        value("0 * (" + billion + " * 1001)", Long.MIN_VALUE);
        value("(" + billion + " * 1000) * (" + billion + " * 1000)", Long.MIN_VALUE);
        value("(0 - " + billion + " * 1000) * (" + billion + " * 1000)", Long.MIN_VALUE);
        value("(" + billion + " * 999) * (" + billion + " * 18)", Long.MIN_VALUE);
        // 2 to the 64, which is 0 in a long
        value("(256 * 256 * 256 * 256) * (256 * 256 * 256 * 256)", Long.MIN_VALUE);
        value("1 / 0", Long.MIN_VALUE);
        value("0 / 0", Long.MIN_VALUE);
        value("1 or 1 / 0", Long.MIN_VALUE);
        value("0 and 1 / 0", Long.MIN_VALUE);
        value("not (1 / 0)", Long.MIN_VALUE);
        value("1 / (1 / 2)", Long.MIN_VALUE);
        value("0 * (0 - " + billion + " * 1000)", 0);
    }

    private static void changes() {
        BeatParish x = Check.parish("man a 5 0;man b 5 0;tie a b;spring 500;");
        Check.due("P11 it is so", x.shift(0), false);
        Check.due("P11 100", x.shift(100), false);
        Check.due("P11 -100", x.shift(-100), false);
        Check.due("P11 99", x.shift(99), true);
        Check.due("P11 99 again", x.shift(99), false);
        Check.due("P11 -99", x.shift(-99), true);
        Check.due("P11 SHIFT is so much", x.count(6), -99);
        Check.due("P12 0", x.wind(0), -1);
        Check.due("P12 -1", x.wind(-1), -1);
        Check.due("P12 1000", x.wind(1000), -1);
        Check.due("P12 2147483647", x.wind(2147483647), -1);
        Check.due("P12 above 999", x.wind(500), -1);
        Check.due("P12 1", x.wind(1), 501);
        Check.due("P12 999 then", x.wind(498), 999);
        Check.due("P12 full", x.wind(1), -1);
        Check.due("P12 999 of 0", Check.parish("spring 0;").wind(999), 999);
        Check.due("P13 it is so", x.hiccup(0, 0), false);
        Check.due("P13 10", x.hiccup(0, 10), false);
        Check.due("P13 -1", x.hiccup(0, -1), false);
        Check.due("P13 9", x.hiccup(0, 9), true);
        Check.due("P13 9 again", x.hiccup(0, 9), false);
        Check.due("P13 for 9", Check.man(x, 0, 3), 9);
        Check.due("P13 0", x.hiccup(0, 0), true);
        Check.due("P13 no PERSON 2", x.hiccup(2, 1), false);
        Check.due("P13 no PERSON -1", x.hiccup(-1, 1), false);
        x.hiccup(0, 4);
        Check.due("P14 no PERSON 2", x.aunt(2, true), false);
        Check.due("P14 no PERSON -1", x.aunt(-1, true), false);
        Check.due("P14 is HERE", x.aunt(0, false), false);
        Check.due("P14 goes", x.aunt(0, true), true);
        Check.due("P14 goes again", x.aunt(0, true), false);
        Check.due("P14 no more HERE", Check.man(x, 0, 4), 0);
        Check.due("P14 no HICCUPS", Check.man(x, 0, 3), 0);
        Check.due("P13 not HERE", x.hiccup(0, 1), false);
        Check.due("P13 not HERE, 0", x.hiccup(0, 0), false);
        Check.due("P14 comes back", x.aunt(0, false), true);
        Check.due("P14 HERE", Check.man(x, 0, 4), 1);
        Check.due("P14 without HICCUPS", Check.man(x, 0, 3), 0);
    }

    private static void working() {
        BeatParish x = Check.parish("man a 45 0;man b 99 0;work p a 130 1 1;work q a 60 1 0;work r b 100 1 0;speed 60;");
        Check.due("P15 go(0)", x.go(0), 0);
        Check.due("P15 go(-1)", x.go(-1), -1);
        Check.due("P15 go(100)", x.go(100), -1);
        Check.due("P15 none did", x.count(4), 0);
        Check.due("P15 go(1)", x.go(1), 1);
        Check.due("P15 not begun", x.work(0, 4), 130);
        Check.due("P15 DONE just so", x.work(1, 4), 0);
        Check.due("P15 in HOUR 0", x.work(1, 5), 0);
        Check.due("P15 SLIPS of a", Check.man(x, 0, 2), 1);
        Check.due("P15 SLIPS of b", Check.man(x, 1, 2), 0);
        x.aunt(1, true);
        Check.due("P15 go(1) again", x.go(1), 2);
        Check.due("P15 begun", x.work(0, 4), 70);
        Check.due("P15 not HERE", x.work(2, 4), 40);
        x.aunt(1, false);
        x.hiccup(1, 1);
        x.go(1);
        Check.due("P15 has HICCUPS", x.work(2, 4), 40);
        x.go(1);
        Check.due("P15 not beyond its end", x.work(2, 4), 0);
        Check.due("P15 r in HOUR 3", x.work(2, 5), 3);
        Check.due("P15 p in HOUR 3", x.work(0, 5), 3);
        Check.due("P15 SLIPS of a, the last one at 60, too", Check.man(x, 0, 2), 4);
        x.go(9);
        Check.due("P15 no more SLIPS", Check.man(x, 0, 2), 4);
        clamped("0 - 5", 0);
        clamped("100", 99);
        clamped("99", 99);
        clamped("left", 50);
        clamped("1 / 0", 7);
        x = Check.parish("man a 150 0;work p a 50 1 0;speed 70;law slip 1 / 0;");
        x.go(1);
        Check.due("P15 SLIPS 0 at least", Check.man(x, 0, 2), 0);
    }

    private static void clamped(String e, int due) {
        BeatParish x = Check.parish("man a 60 0;work p a 50 1 0;speed 139;law slip " + e + ";");
        x.go(1);
        Check.due("P15 SLIPS by " + e, Check.man(x, 0, 2), due);
    }

    private static void wasps() {
        BeatParish x = Check.parish("man a 1 0;work p a 999 1 0;speed 50;wasp 100;");
        x.go(2);
        Check.due("P15 twice 50", x.work(0, 4), 799);
        x = Check.parish("man a 1 0;work p a 999 1 0;speed 150;wasp 100;");
        x.go(2);
        Check.due("P15 199 at most", x.work(0, 4), 601);
        x = Check.parish("man a 1 0;work p a 999 1 0;speed 50;wasp 0;seed 1;");
        x.go(2);
        Check.due("P15 no WASPS", x.work(0, 4), 899);
        drawn();
    }

    private static void drawn() {
        String text = "man a 1 0;work p a 999 1 0;work q a 999 1 0;work r a 999 1 0;work s a 999 1 0;speed 1;wasp 40;spring 30;";
        BeatParish x = Check.parish(text + "seed 777;");
        long number = 777;
        int left = 999;
        for (int hour = 0; hour < 40; hour++) {
            int beat = hour < 30 ? 1 : 0;
            if (beat > 0) {
                number = (number * 1103515245L + 12345L) % (1L << 31);
                beat = number / 65536 % 100 < 40 ? 2 : 1;
            }
            left -= beat;
            x.go(1);
            Check.due("P15 left behind HOUR " + hour, x.work(0, 4), left);
        }
        x.wind(100);
        for (int hour = 40; hour < 60; hour++) {
            number = (number * 1103515245L + 12345L) % (1L << 31);
            left -= number / 65536 % 100 < 40 ? 2 : 1;
            x.go(1);
            Check.due("P15 no number was drawn with BEAT 0, HOUR " + hour, x.work(0, 4), left);
        }
    }

    private static void hiccups() {
        String text = "man a 9 39;man b 9 40;man c 9 99;man d 9 0;tie a b;tie b c;tie c d;";
        BeatParish x = Check.parish(text);
        x.hiccup(0, 2);
        hiccups(x, 1, 3, 0, 0);
        hiccups(x, 0, 2, 5, 0);
        hiccups(x, 2, 1, 4, 1);
        hiccups(x, 1, 0, 3, 0);
        x = Check.parish(text + "law hush hour + beat;speed 7;wasp 100;");
        x.hiccup(3, 1);
        hiccups(x, 0, 0, 9, 0);
        x = Check.parish(text + "law hush 0 - 3;");
        x.hiccup(3, 1);
        hiccups(x, 0, 0, 1, 0);
        x = Check.parish(text + "law hush 100;");
        x.hiccup(3, 1);
        hiccups(x, 0, 0, 9, 0);
        x = Check.parish(text + "law hush aged / 20;");
        x.hiccup(1, 9);
        hiccups(x, 1, 8, 4, 0);
        x = Check.parish(text + "law hush 1 / left;");
        x.hiccup(1, 9);
        hiccups(x, 2, 8, 5, 0);
        x = Check.parish(text + "law hush 3 + beat;spring 0;");
        x.hiccup(1, 9);
        x.aunt(2, true);
        hiccups(x, 3, 8, 0, 0);
        hiccups(x, 2, 7, 0, 0);
        x.aunt(2, false);
        hiccups(x, 1, 6, 3, 0);
    }

    private static void hiccups(BeatParish x, int a, int b, int c, int d) {
        int hour = x.go(1);
        int[] due = {a, b, c, d};
        for (int man = 0; man < 4; man++) {
            Check.due("P15 HICCUPS of " + man + " at " + hour, Check.man(x, man, 3), due[man]);
        }
    }

    private static void wear() {
        int[][] due = {{199, 198}, {100, 0}, {200, 200}, {193, 186}, {199, 198}, {199, 197}};
        String[] es = {"", "law wear coil;", "law wear 0 - 1;", "law wear beat / 10;", "law wear 1 / fast;", "law wear hour + 1;"};
        for (int i = 0; i < es.length; i++) {
            BeatParish x = Check.parish("spring 200;speed 70;" + es[i]);
            x.go(1);
            Check.due("P15 COIL by " + es[i], x.count(5), i == 1 ? 101 : due[i][0]);
            x.go(1);
            Check.due("P15 COIL then by " + es[i], x.count(5), i == 1 ? 2 : due[i][1]);
        }
        BeatParish x = Check.parish("spring 200;speed 30;wasp 100;law wear beat;");
        x.go(1);
        Check.due("P15 wear by a WASP", x.count(5), 140);
        x.go(3);
        Check.due("P15 COIL 0 at least", x.count(5), 0);
        x.go(1);
        Check.due("P15 COIL 0 stays", x.count(5), 0);
    }

    private static void lastHours() {
        BeatParish x = new BeatParish();
        for (int k = 1; k <= 100; k++) {
            Check.due("P15 go(99)", x.go(99), 99 * k);
        }
        Check.due("P15 9900", x.go(0), 9900);
        Check.due("P15 behind 9900", x.go(1), -1);
        x = new BeatParish();
        for (int k = 1; k <= 99; k++) {
            x.go(99);
        }
        x.go(50);
        Check.due("P15 9851", x.go(0), 9851);
        Check.due("P15 beyond 9900", x.go(50), -1);
        Check.due("P15 to 9900", x.go(49), 9900);
    }
}
