/** Promises 1 to 5: a new object, feed, text, fault, named; and KNOTS. */
final class TextTest {
    private TextTest() {
    }

    public static void main(String[] args) {
        newObject();
        feeding();
        reading();
        tokens();
        numbers();
        toldAlready();
        limits();
        expressions();
        knots();
        names();
        Check.end();
    }

    private static void newObject() {
        BeatParish x = new BeatParish();
        int[] counts = {0, 0, 0, 0, 0, 200, 0, 0, 0, 0, 0, 0, 0, 0, -1};
        for (int what = 0; what < counts.length; what++) {
            Check.due("P1 count(" + what + ")", x.count(what), counts[what]);
        }
        Check.due("P1 beat()", x.beat(), 60);
        Check.due("P1 fault(0)", x.fault(0), 0);
        Check.due("P1 fault(1)", x.fault(1), -1);
        Check.due("P1 the TAPE is empty", x.text(1), -2);
        Check.due("P1 text(0)", x.text(0), 0);
        Check.due("P1 chance has no WORK", x.chance(0, 1, 0), -1);
    }

    private static void feeding() {
        BeatParish x = new BeatParish();
        for (int k = 1; k <= 35; k++) {
            Check.due("P2 feed " + k, x.feed(0x20202020, 0x20202020, 0x20202020, 0x20202020, 0x20202020), 20 * k);
        }
        Check.due("P2 feed beyond 700", x.feed(0, 0, 0, 0, 0), -1);
        Check.due("P2 feed beyond 700 again", x.feed(0, 0, 0, 0, 0), -1);
        Check.due("P2 none came", x.text(701), -2);
        Check.due("P2 700 blanks", x.text(700), 0);
        Check.due("P2 empty then", x.feed(0, 0, 0, 0, 0), 20);
        Check.due("P2 bytes 0 are no TOKENS", x.text(20), -1);
        Check.due("P2 fault(0)", x.fault(0), 1);
        Check.due("P2 fault(1)", x.fault(1), 0);
        x.feed(0x73706565, 0x6420373b, 0x202020ff, 0x80202020, 0x20202020);
        Check.due("P2 the highest byte first", x.text(8), 1);
        Check.due("P2 speed 7", x.beat(), 7);
        x.feed(0x73706565, 0x6420373b, 0x202020ff, 0x80202020, 0x20202020);
        Check.due("P2 byte 255", x.text(12), -1);
        Check.due("P2 byte 255 at 11", x.fault(1), 11);
    }

    private static void reading() {
        BeatParish x = new BeatParish();
        Check.due("P3 text(0)", x.text(0), 0);
        Check.due("P3 text(-1)", x.text(-1), -2);
        Check.due("P3 lines", Check.tell(x, "speed 5;\n  speed\n6;spring 9;"), 3);
        Check.due("P3 too many", x.text(1), -2);
        Check.feed(x, "man a 1 1;");
        Check.due("P3 not so many", x.text(21), -2);
        Check.due("P3 below 0", x.text(-5), -2);
        Check.due("P3 the TAPE stayed", x.text(10), 1);
        Check.due("P3 COIL as without", x.count(5), 200);
        Check.due("P3 the TAPE is empty with a FAULT", Check.tell(x, "x"), -1);
        Check.due("P3 nothing left of it", x.text(1), -2);
        Check.due("P4 -2 leaves the FAULT", x.fault(0), 1);
        Check.due("P4 -2 leaves its place", x.fault(1), 0);
        Check.due("P4 fault(2)", x.fault(2), -1);
        Check.due("P4 fault(-1)", x.fault(-1), -1);
        Check.due("P3 all else stays", x.count(0), 1);
        Check.due("P3 only the first bytes", Check.feed(x, "man b 2 2;man c 3 3;"), 20);
        Check.due("P3 first ten", x.text(10), 1);
        Check.due("P4 no FAULT any more", x.fault(0), 0);
        Check.due("P4 no place any more", x.fault(1), -1);
        anew();
        faultLeavesAll();
    }

    private static void anew() {
        BeatParish x = Check.parish("man a 9 9;work w a 99 1 0;");
        x.shift(5);
        x.go(1);
        x.hiccup(0, 3);
        x.aunt(0, true);
        x.keep();
        x.see(1, 0, 1, true);
        x.known(0);
        Check.due("P3 text again", Check.tell(x, "man b 8 8;work v b 50 1 0;seed 3;"), 3);
        int[] counts = {1, 0, 1, 0, 0, 200, 0, 0, 0, 0, 1, 0, 0, 0};
        for (int what = 0; what < counts.length; what++) {
            Check.due("P3 count(" + what + ") anew", x.count(what), counts[what]);
        }
        Check.due("P3 no IMAGE", x.back(), -1);
        Check.due("P3 nothing to undo", x.undo(), -1);
        Check.due("P3 nothing left behind", x.work(0, 4), 50);
        x.see(1, 0, 1, true);
        Check.due("P3 all KNOWN", x.count(12), 1);
    }

    private static void faultLeavesAll() {
        BeatParish x = Check.parish("man a 9 9;work w a 99 1 0;spring 50;");
        x.shift(5);
        x.go(1);
        x.keep();
        x.shift(6);
        x.hiccup(0, 3);
        x.see(1, 0, 1, true);
        Check.due("P3 a FAULT", Check.tell(x, "man b 8 8;man c 7 7;tie b c;law slip 1;wasp 9"), -1);
        int[] counts = {1, 0, 1, 0, 1, 49, 6, 0, 5, 1, 1, 1, 1, 2};
        for (int what = 0; what < counts.length; what++) {
            Check.due("P3 count(" + what + ") behind a FAULT", x.count(what), counts[what]);
        }
        Check.due("P3 undo behind a FAULT", x.undo(), 1);
        Check.due("P3 back behind a FAULT", x.back(), 1);
    }

    private static void tokens() {
        Check.fault("mans a 1 1;", 1, 0);
        Check.fault(";", 1, 0);
        Check.fault("  7;", 1, 2);
        Check.fault("speed 1;;", 1, 8);
        Check.fault("speed", 1, 5);
        Check.fault("speed  \n ", 1, 9);
        Check.fault("speed 1", 1, 7);
        Check.fault("speed\t1;", 1, 5);
        Check.fault("speed 1 2;", 1, 8);
        Check.fault("speed a;", 1, 6);
        Check.fault("Speed 1;", 1, 0);
        Check.fault("speed 1.;", 1, 7);
        Check.fault("man abcdefg 1 1;", 1, 4);
        Check.fault("man beat 1 1;", 1, 4);
        Check.fault("man man 1 1;", 1, 4);
        Check.fault("man a b 1;", 1, 6);
        Check.fault("man 1 1 1;", 1, 4);
        Check.fault("man a 1;", 1, 7);
        Check.fault("springs 5;", 1, 0);
        Check.fault("man a 1 1;tie a and;", 1, 16);
        Check.fault("man a 1 1;tie a abcdefg;", 1, 16);
        Check.fault("tie a b;", 4, 4);
        Check.fault("man a 1 1;tie a b;", 4, 16);
        Check.fault("man a 1 1;tie b a;", 4, 14);
        Check.fault("man a 1 1;tie a a;", 5, 16);
        Check.fault("work p a 1 1 1;man a 1 1;", 4, 7);
        Check.fault("man a 1 1;work p a 1 1 1", 1, 24);
        Check.fault("law;", 1, 3);
        Check.fault("law coil 1;", 1, 4);
        Check.fault("law not 1;", 1, 4);
        Check.fault("law law 1;", 1, 4);
        Check.fault("law x 1;", 1, 4);
        Check.fault("slip 1;", 1, 0);
        BeatParish x = new BeatParish();
        Check.due("TOKENS side by side", Check.tell(x, "man a1 1;work b a1 1 1;law slip 3<>4;speed8;"), 4);
        Check.due("speed8", x.beat(), 8);
        Check.due("0 ahead of a number", Check.tell(x, "speed 00000000000000000000000000007;"), 1);
        Check.due("six letters", Check.tell(x, "man abcdef 1 1;man speeds 1 1;"), 2);
    }

    private static void numbers() {
        Check.fault("man a 0 1;", 2, 6);
        Check.fault("man a 200 1;", 2, 6);
        Check.fault("man a 1 100;", 2, 8);
        Check.fault("man a 99999999999999999999 1;", 2, 6);
        Check.fault("man a 4294967297 1;", 2, 6);
        Check.fault("man a 1 1;work p a 0 1 0;", 2, 19);
        Check.fault("man a 1 1;work p a 1000 1 0;", 2, 19);
        Check.fault("man a 1 1;work p a 1 0 0;", 2, 21);
        Check.fault("man a 1 1;work p a 1 13 0;", 2, 21);
        Check.fault("man a 1 1;work p a 1 1 100;", 2, 23);
        Check.fault("speed 0;", 2, 6);
        Check.fault("speed 200;", 2, 6);
        Check.fault("spring 1000;", 2, 7);
        Check.fault("wasp 101;", 2, 5);
        Check.fault("seed 100000;", 2, 5);
        Check.fault("law wear 10000;", 2, 9);
        BeatParish x = new BeatParish();
        Check.due("least and most", Check.tell(x, "man a 1 0;man b 199 99;work p a 1 1 0;work q b 999 12 99;"
            + "speed 1;speed 199;spring 999;wasp 100;seed 99999;law slip 9999;law wear 0;"), 11);
        Check.due("spring 0", Check.tell(x, "spring 0;wasp 0;seed 0;"), 3);
        Check.due("COIL 0", x.count(5), 0);
    }

    private static void toldAlready() {
        Check.fault("man a 1 1;man a 2 2;", 3, 14);
        Check.fault("man a 1 1;work p a 1 1 0;work p a 1 1 0;", 3, 30);
        Check.fault("man a 1 1;work p a 1 1 0;work p b 1 1 0;", 3, 30);
        Check.fault("man a 1 1;man b 1 1;tie a b;tie a b;", 3, 34);
        Check.fault("man a 1 1;man b 1 1;tie a b;tie b a;", 3, 34);
        Check.fault("spring 1;spring 2;", 3, 9);
        Check.fault("wasp 1;wasp 2;", 3, 7);
        Check.fault("seed 1;seed 2;", 3, 7);
        Check.fault("law slip 1;law slip 2;", 3, 15);
        Check.fault("law wear 1;law hush 1;law hush 2;", 3, 26);
        Check.fault("spring 200;spring 200;", 3, 11);
        BeatParish x = new BeatParish();
        Check.due("one name for two kinds", Check.tell(x, "man a 1 1;work a a 1 1 0;"), 2);
    }

    private static void limits() {
        String people = "man a 1 1;man b 1 1;man c 1 1;man d 1 1;man e 1 1;man f 1 1;";
        Check.fault(people + "man a 0", 2, 60);
        String ties = people + "tie a b;tie a c;tie a d;tie a e;tie a f;tie b c;tie b d;tie b e;tie b f;";
        Check.fault(ties + "tie a b;", 2, 132);
        BeatParish x = Check.parish(ties);
        Check.due("nine TIES", x.count(1), 9);
        StringBuilder works = new StringBuilder("man a 1 1;");
        StringBuilder speeds = new StringBuilder();
        for (char c = 'a'; c < 'i'; c++) {
            works.append("work ").append(c).append(" a 1 1 0;");
            speeds.append("speed 5;");
        }
        Check.parish(works.toString());
        Check.fault(works + "work a", 2, works.length());
        Check.parish(speeds.toString());
        Check.fault(speeds + "speed 5;", 2, 64);
        Check.parish("law slip ((((((((1))))))));");
        Check.parish("law slip ((((((((1))))))))+((((((((1))))))));");
        Check.fault("law slip (((((((((1)))))))));", 2, 17);
        Check.fault("law slip (((((((()", 1, 17);
    }

    private static void expressions() {
        Check.fault("law slip;", 1, 8);
        Check.fault("law slip x;", 1, 9);
        Check.fault("law slip 1 2;", 1, 11);
        Check.fault("law slip -1;", 1, 9);
        Check.fault("law slip 1 + ;", 1, 13);
        Check.fault("law slip 1 + not 2;", 1, 13);
        Check.fault("law slip 1 = not 2;", 1, 13);
        Check.fault("law slip 1 < 2 < 3;", 1, 15);
        Check.fault("law slip 1 < = 2;", 1, 13);
        Check.fault("law slip 1 =< 2;", 1, 12);
        Check.fault("law slip 1 => 2;", 1, 12);
        Check.fault("law slip 1 >< 2;", 1, 12);
        Check.fault("law slip 1 <>= 2;", 1, 13);
        Check.fault("law slip (1;", 1, 11);
        Check.fault("law slip 1);", 1, 10);
        Check.fault("law slip ();", 1, 10);
        Check.fault("law slip man;", 1, 9);
        Check.fault("law slip 1 or;", 1, 13);
        Check.fault("law slip 1", 1, 10);
        Check.fault("law slip or 1;", 1, 9);
        Check.fault("law slip not;", 1, 12);
        Check.fault("law slip 1 not 1;", 1, 11);
        Check.parish("law slip not not 1 = 2 and not (3 or not 4) or beat<fast;law wear(aged+left)*bar/coil-hour;");
    }

    private static void knots() {
        Check.due("P45 KNOTS", Check.parish("law slip not (1 + beat) <= 3 and 1 or 0;law wear 7;").count(3), 11);
        String nots = "not ".repeat(63);
        Check.due("P45 64 KNOTS", Check.parish("law slip " + nots + "1;").count(3), 64);
        Check.fault("law slip " + nots + "not 1;", 2, 265);
        Check.fault("law slip " + nots + "not not 1;", 2, 265);
        Check.fault("law slip " + nots + "1 + 1;", 2, 263);
        Check.fault("law slip " + nots + "1 1;", 1, 263);
        Check.fault("law slip " + nots + "1;law wear 1;", 2, 272);
        Check.fault("law slip " + nots + "1;law wear );", 1, 272);
        Check.parish("law slip " + "not ".repeat(62) + "((1));law wear 1;");
        Check.due("KNOTS stay with a FAULT", Check.parish("law hush 1 + 2;").count(3), 3);
    }

    private static void names() {
        BeatParish x = Check.parish("man a 1 1;man abcdef 1 1;man zzzzzz 1 1;work z a 1 1 0;work b a 1 1 0;");
        Check.due("P5 a", x.named(0, Check.letters("a")), 0);
        Check.due("P5 a by bits", x.named(0, 1 << 25), 0);
        Check.due("P5 abcdef", x.named(0, Check.letters("abcdef")), 1);
        Check.due("P5 zzzzzz", x.named(0, Check.letters("zzzzzz")), 2);
        Check.due("P5 WORK z", x.named(1, Check.letters("z")), 0);
        Check.due("P5 WORK b", x.named(1, Check.letters("b")), 1);
        Check.due("P5 WORK a", x.named(1, Check.letters("a")), -1);
        Check.due("P5 PERSON b", x.named(0, Check.letters("b")), -1);
        Check.due("P5 1", x.named(0, 1), -1);
        Check.due("P5 0", x.named(0, 0), -1);
        Check.due("P5 -1", x.named(0, -1), -1);
        Check.due("P5 beyond 30 bits", x.named(0, 1 << 25 | 1 << 30), -1);
        Check.due("P5 what 2", x.named(2, Check.letters("a")), -1);
        Check.due("P5 what -1", x.named(-1, Check.letters("a")), -1);
    }
}
