/** Promises 16 to 19, 23, 24, 32 to 34: what comes as it goes. */
final class AheadTest {
    // p: 50, 70 beats, DONE in HOUR 1; q: from HOUR 1 on 70, 50, DONE in HOUR 2; r: 50, 70, 50, 70, 50 and COIL is 0
    private static final String PARISH = "man a 60 20;man b 45 70;man c 100 0;tie a b;tie b c;work p a 100 4 0;"
        + "work q b 90 3 1;work r c 300 6 0;speed 50;speed 70;spring 5;";

    private AheadTest() {
    }

    public static void main(String[] args) {
        ahead();
        asItGoes();
        done();
        stops();
        pace();
        crowd();
        off();
        firstSlip();
        goOn();
        startBy();
        Check.end();
    }

    private static void ahead() {
        BeatParish x = Check.parish(PARISH);
        int[] p = {100, 50, 0, 0};
        int[] q = {90, 90, 20, 0};
        int[] r = {300, 250, 180, 130, 60, 10, 10};
        for (int n = 0; n < 4; n++) {
            Check.due("P16 left of p in " + n, x.ahead(n, 0, 0), p[n]);
            Check.due("P16 left of q in " + n, x.ahead(n, 0, 1), q[n]);
        }
        for (int n = 0; n < 7; n++) {
            Check.due("P16 left of r in " + n, x.ahead(n, 0, 2), r[n]);
            Check.due("P16 COIL in " + n, x.ahead(n, 2, -7), Math.max(0, 5 - n));
        }
        Check.due("P16 SLIPS of a", x.ahead(2, 1, 0), 1);
        Check.due("P16 SLIPS of b", x.ahead(2, 1, 1), 2);
        Check.due("P16 SLIPS of b in 3", x.ahead(3, 1, 1), 2);
        Check.due("P16 SLIPS of c", x.ahead(200, 1, 2), 0);
        Check.due("P16 DONE more in 1", x.ahead(1, 3, 99), 0);
        Check.due("P16 DONE more in 2", x.ahead(2, 3, 99), 1);
        Check.due("P16 DONE more in 200", x.ahead(200, 3, 99), 2);
        Check.due("P16 n 201", x.ahead(201, 0, 0), -1);
        Check.due("P16 n -1", x.ahead(-1, 0, 0), -1);
        Check.due("P16 what 4", x.ahead(1, 4, 0), -1);
        Check.due("P16 what -1", x.ahead(1, -1, 0), -1);
        Check.due("P16 no WORK 3", x.ahead(1, 0, 3), -1);
        Check.due("P16 no WORK -1", x.ahead(1, 0, -1), -1);
        Check.due("P16 no PERSON 3", x.ahead(1, 1, 3), -1);
        Check.due("P16 no PERSON -1", x.ahead(1, 1, -1), -1);
        Check.due("P16 nothing went by", x.count(4), 0);
        x.go(2);
        Check.due("P16 SLIPS more from now on", x.ahead(2, 1, 1), 0);
        Check.due("P16 DONE more from now on", x.ahead(2, 3, 0), 1);
        x.hiccup(1, 1);
        Check.due("P16 with HICCUPS", x.ahead(1, 0, 1), 20);
        Check.due("P16 behind HICCUPS", x.ahead(2, 0, 1), 0);
    }

    private static void asItGoes() {
        String text = "man a 9 0;work p a 500 1 0;speed 50;seed 9;wasp ";
        Check.due("as it goes with wasp 49", Check.parish(text + "49;").ahead(2, 0, 0), 400);
        Check.due("as it goes with wasp 50", Check.parish(text + "50;").ahead(2, 0, 0), 300);
        Check.due("as it goes with wasp 100", Check.parish(text + "100;").ahead(2, 0, 0), 300);
        Check.due("as it goes without", Check.parish("man a 9 0;work p a 500 1 0;").ahead(2, 0, 0), 380);
        BeatParish x = Check.parish(text + "30;");
        BeatParish y = Check.parish(text + "30;");
        x.ahead(200, 0, 0);
        x.done(0);
        x.stops();
        x.pace(5, 0);
        x.chance(5, 5, 0);
        x.tried(0, 0, 9);
        x.shifts();
        x.go(4);
        y.go(4);
        Check.due("asking takes no number", x.work(0, 4), y.work(0, 4));
    }

    private static void done() {
        BeatParish x = Check.parish(PARISH);
        Check.due("P17 p", x.done(0), 2);
        Check.due("P17 q", x.done(1), 3);
        Check.due("P17 r", x.done(2), -2);
        Check.due("P17 no WORK 3", x.done(3), -1);
        Check.due("P17 no WORK -1", x.done(-1), -1);
        x.go(1);
        Check.due("P17 p from HOUR 1 on", x.done(0), 1);
        x.go(1);
        Check.due("P17 p is DONE", x.done(0), 0);
        x = Check.parish("man a 9 0;work p a 200 1 0;work q a 201 1 0;work r a 101 1 99;speed 1;spring 999;");
        Check.due("P17 200", x.done(0), 200);
        Check.due("P17 201", x.done(1), -2);
        Check.due("P17 101 from 99 on", x.done(2), 200);
        x.aunt(0, true);
        Check.due("P17 not HERE", x.done(0), -2);
    }

    private static void stops() {
        BeatParish x = Check.parish(PARISH);
        Check.due("P18 stops", x.stops(), 5);
        x.go(4);
        Check.due("P18 then", x.stops(), 1);
        x.go(1);
        Check.due("P18 it is", x.stops(), 0);
        Check.due("P18 999", Check.parish("spring 999;").stops(), 999);
        Check.due("P18 never", Check.parish("law wear 0;").stops(), -2);
        Check.due("P18 in 500", Check.parish("spring 999;law wear 1 + (hour > 0 and coil > 1);").stops(), 500);
        Check.due("P18 one HOUR too late", Check.parish("spring 999;law wear hour <> 3;").stops(), -2);
        Check.due("P18 in 999 by a late one", Check.parish("spring 998;law wear hour <> 3;").stops(), 999);
        Check.due("P18 wear by WASPS", Check.parish("speed 9;wasp 50;spring 90;law wear beat;").stops(), 5);
    }

    private static void pace() {
        BeatParish x = Check.parish(PARISH);
        Check.due("P19 SPEED", x.pace(3, 0), 45);
        Check.due("P19 DONE", x.pace(3, 1), 2);
        Check.due("P19 SLIPS", x.pace(3, 2), 0);
        Check.due("P19 n 0", x.pace(0, 0), -1);
        Check.due("P19 n 61", x.pace(61, 0), -1);
        Check.due("P19 what 3", x.pace(3, 3), -1);
        Check.due("P19 what -1", x.pace(3, -1), -1);
        // 5 HOURS have COIL: r needs 60 an HOUR, by which b slips once an HOUR in HOURS 1 and 2
        Check.due("P19 SPEED in 60", x.pace(60, 0), 60);
        Check.due("P19 DONE in 60", x.pace(60, 1), 3);
        Check.due("P19 SLIPS in 60", x.pace(60, 2), 2);
        x.shift(-10);
        Check.due("P19 SHIFT as it is", x.pace(60, 0), 70);
        Check.due("P19 SLIPS with SHIFT", x.pace(60, 2), 2);
        Check.due("P19 beat() as told", x.beat(), 40);
        x.go(2);
        // p is DONE by now, 30 are left of q and 200 of r: 67 an HOUR and SHIFT -10
        Check.due("P19 SPEED later", x.pace(3, 0), 77);
        Check.due("P19 DONE more later", x.pace(3, 1), 2);
        x = Check.parish("man a 10 0;work p a 10 1 0;work q a 990 1 0;speed 50;spring 0;");
        Check.due("P19 without COIL", x.pace(9, 0), 1);
        Check.due("P19 DONE without COIL", x.pace(9, 1), 0);
        x.wind(9);
        Check.due("P19 the first of several", x.pace(1, 0), 10);
        Check.due("P19 most is more than fewest SLIPS", x.pace(10, 1), 1);
        Check.due("P19 slowly", x.pace(10, 0), 2);
        x = Check.parish("man a 10 0;work p a 10 1 0;law slip 100 - beat;");
        Check.due("P19 fewest SLIPS by the law", x.pace(1, 0), 99);
        Check.due("P19 SLIPS by the law", x.pace(1, 2), 1);
        x = Check.parish("man a 199 0;work p a 200 1 0;wasp 60;");
        Check.due("P19 with WASPS", x.pace(2, 0), 50);
    }

    private static void crowd() {
        BeatParish x = Check.parish(PARISH);
        int[] due = {0, 0, 1, 3, 3};
        for (int n = 0; n < due.length; n++) {
            Check.due("P23 in " + n, x.crowd(n), due[n]);
        }
        Check.due("P23 n 200", x.crowd(200), 3);
        Check.due("P23 n 201", x.crowd(201), -1);
        Check.due("P23 n -1", x.crowd(-1), -1);
        x.go(2);
        Check.due("P23 those that weren't", x.crowd(9), 2);
    }

    private static void off() {
        BeatParish x = Check.parish(PARISH);
        int[][] due = {{0, 1}, {1, 2}, {1, 2}};
        for (int n = 1; n <= 3; n++) {
            Check.due("P24 a above in " + n, x.off(0, n, 0), due[n - 1][0]);
            Check.due("P24 a below in " + n, x.off(0, n, 1), due[n - 1][1]);
        }
        Check.due("P24 b works in none, above", x.off(1, 1, 0), 0);
        Check.due("P24 b works in none, below", x.off(1, 1, 1), 1);
        Check.due("P24 b above", x.off(1, 3, 0), 1);
        Check.due("P24 b below", x.off(1, 3, 1), 2);
        Check.due("P24 c above", x.off(2, 5, 0), 0);
        Check.due("P24 c below", x.off(2, 5, 1), 1);
        Check.due("P24 n 0", x.off(0, 0, 0), -1);
        Check.due("P24 n 201", x.off(0, 201, 0), -1);
        Check.due("P24 n 200", x.off(0, 200, 1), 2);
        Check.due("P24 what 2", x.off(0, 1, 2), -1);
        Check.due("P24 what -1", x.off(0, 1, -1), -1);
        Check.due("P24 no PERSON 3", x.off(3, 1, 0), -1);
        Check.due("P24 no PERSON -1", x.off(-1, 1, 0), -1);
        x = Check.parish("man a 9 0;work p a 60 1 0;work q a 90 1 0;speed 10;law slip bar * (hour < 6 and hour > 1);");
        Check.due("P24 two WORKS of one, above", x.off(0, 200, 0), 4);
        Check.due("P24 two WORKS of one, below", x.off(0, 200, 1), 9);
        Check.due("P24 in least terms, above", x.off(0, 6, 0), 2);
        Check.due("P24 in least terms, below", x.off(0, 6, 1), 3);
        x.hiccup(0, 1);
        Check.due("P24 HICCUPS, above", x.off(0, 6, 0), 4);
        Check.due("P24 HICCUPS, below", x.off(0, 6, 1), 5);
    }

    private static void firstSlip() {
        BeatParish x = Check.parish(PARISH);
        Check.due("P32 in which", x.firstSlip(9, 0), 2);
        Check.due("P32 whose", x.firstSlip(9, 1), 0);
        Check.due("P32 not by then", x.firstSlip(1, 0), -2);
        Check.due("P32 not by then, whose", x.firstSlip(1, 1), -2);
        Check.due("P32 just by then", x.firstSlip(2, 0), 2);
        Check.due("P32 n 0", x.firstSlip(0, 0), -1);
        Check.due("P32 n 201", x.firstSlip(201, 0), -1);
        Check.due("P32 what 2", x.firstSlip(9, 2), -1);
        Check.due("P32 what -1", x.firstSlip(9, -1), -1);
        x.aunt(0, true);
        Check.due("P32 of b", x.firstSlip(9, 1), 1);
        x.go(1);
        Check.due("P32 this one", x.firstSlip(1, 0), 1);
        x = Check.parish("man a 9 0;man b 9 0;work p b 99 1 0;work q a 99 1 0;speed 50;");
        Check.due("P32 the first of several", x.firstSlip(200, 1), 0);
        x = Check.parish("man a 9 0;work p a 999 1 0;speed 1;law slip hour = 199;");
        Check.due("P32 in 200", x.firstSlip(200, 0), 200);
        Check.due("P32 not in 199", x.firstSlip(199, 0), -2);
    }

    private static void goOn() {
        BeatParish x = Check.parish(PARISH);
        Check.due("P33 at 0", x.goOn(), 5);
        x.go(1);
        Check.due("P33 at 1", x.goOn(), 7);
        x.hiccup(1, 1);
        Check.due("P33 with HICCUPS", x.goOn(), 5);
        x.aunt(2, true);
        Check.due("P33 at the aunt's", x.goOn(), 1);
        x.go(1);
        Check.due("P33 DONE", x.goOn(), 2);
        x.go(3);
        x.aunt(2, false);
        Check.due("P33 COIL 0", x.goOn(), 0);
        x.wind(1);
        Check.due("P33 COIL 1", x.goOn(), 4);
    }

    private static void startBy() {
        BeatParish x = Check.parish(PARISH);
        Check.due("P34 q in 3", x.startBy(1, 3), 1);
        Check.due("P34 q in 2", x.startBy(1, 2), 0);
        Check.due("P34 q in 1", x.startBy(1, 1), -2);
        Check.due("P34 q in 99", x.startBy(1, 99), 3);
        Check.due("P34 p in 2", x.startBy(0, 2), 0);
        Check.due("P34 r", x.startBy(2, 99), -2);
        Check.due("P34 n 0", x.startBy(0, 0), -1);
        Check.due("P34 n 100", x.startBy(0, 100), -1);
        Check.due("P34 no WORK 3", x.startBy(3, 9), -1);
        Check.due("P34 no WORK -1", x.startBy(-1, 9), -1);
        x.go(1);
        Check.due("P34 from HOUR 1 on", x.startBy(1, 3), 1);
        Check.due("P34 what is left", x.startBy(0, 3), 2);
        x.hiccup(0, 3);
        Check.due("P34 HICCUPS", x.startBy(0, 3), -2);
        Check.due("P34 behind HICCUPS", x.startBy(0, 4), 3);
        x.hiccup(0, 0);
        x.go(1);
        Check.due("P34 it is DONE", x.startBy(0, 9), -1);
        x.aunt(1, true);
        Check.due("P34 not HERE", x.startBy(1, 99), -2);
    }
}
