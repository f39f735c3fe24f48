/** The E of a law, its KNOTS and '(', which FAULT goes first; promises 2 to 5: TAPE, text, fault, named. */
final class EdgeFaultTest {
    private static final String PEOPLE = "man a 1 1;man b 1 1;man c 1 1;man d 1 1;man e 1 1;man f 1 1;";
    private static final String[] COMPARISONS = {"<", "<=", "=", "<>", ">=", ">"};
    private static final String[] SIGNS = {"or", "and", "<", "<=", "=", "<>", ">=", ">", "+", "-", "*", "/"};
    private static final String[] NAMES = {"beat", "fast", "aged", "left", "bar", "coil", "hour"};

    private EdgeFaultTest() {
    }

    public static void main(String[] args) {
        parts();
        signs();
        twoSigns();
        open();
        knots();
        knotsOfAll();
        knot65();
        leastOfOnePlace();
        firstAlong();
        feeding();
        firstBytes();
        notSoMany();
        anew();
        faultAsked();
        faultLeavesAll();
        named();
        Check.end();
    }

    /** P: N | NAME | '(' E ')'. */
    private static void parts() {
        for (String name : NAMES) {
            Check.holds("law slip " + name + ";law wear(" + name + ");law hush not " + name + ";", 3);
        }
        String[] none = {"man", "tie", "work", "speed", "spring", "wasp", "seed", "law", "slip", "wear", "hush", "and", "or",
            "a", "beats", "abcdefg", ")", ";", "+", "-", "*", "/", "<", "<=", "=", "<>", ">=", ">", "?", "\u0000"};
        for (String part : none) {
            Check.fault("law slip " + part + ";", 1, 9);
            Check.fault("law slip 1 + " + part + ";", 1, 13);
            Check.fault("law slip (" + part + ";", 1, 10);
            Check.fault("law slip not " + part + ";", 1, 13);
        }
        Check.fault("law slip", 1, 8);
        Check.fault("law slip ", 1, 9);
        Check.fault("law slip (", 1, 10);
        Check.fault("law slip (1", 1, 11);
        Check.fault("law slip (1;", 1, 11);
        Check.fault("law slip (1));", 1, 12);
        Check.fault("law slip 1 (2);", 1, 11);
        Check.fault("law slip (1)(2);", 1, 12);
        Check.fault("law slip 1 beat;", 1, 11);
        Check.fault("law slip beat not 1;", 1, 14);
        Check.fault("law slip ();", 1, 10);
    }

    private static void signs() {
        for (String sign : SIGNS) {
            Check.holds("law slip 1 " + sign + " 2;", 1);
            Check.fault("law slip 1 " + sign, 1, 11 + sign.length());
            Check.fault("law slip 1 " + sign + ";", 1, 11 + sign.length());
            boolean joins = sign.equals("or") || sign.equals("and");
            if (joins) {
                Check.holds("law slip 1 " + sign + " not 2;", 1);
            } else {
                Check.fault("law slip 1 " + sign + " not 2;", 1, 12 + sign.length());
            }
            for (String next : SIGNS) {
                Check.fault("law slip 1 " + sign + " " + next + " 2;", 1, 12 + sign.length());
            }
        }
        // S [ ( < | <= | = | <> | >= | > ) S ]: one of them at most
        for (String one : COMPARISONS) {
            for (String other : COMPARISONS) {
                Check.fault("law slip 1 " + one + " 2 " + other + " 3;", 1, 14 + one.length());
                Check.holds("law slip (1 " + one + " 2) " + other + " 3;", 1);
                Check.holds("law slip 1 " + one + " (2 " + other + " 3);", 1);
                Check.holds("law slip 1 " + one + " 2 and 3 " + other + " 4;", 1);
            }
        }
    }

    /** A = (or > behind <) right behind < or > belongs to it. */
    private static void twoSigns() {
        String[] signs = {"<", "=", ">"};
        for (String one : signs) {
            for (String other : signs) {
                String both = one + other;
                if (both.equals("<=") || both.equals("<>") || both.equals(">=")) {
                    Check.holds("law slip 1" + both + "2;", 1);
                    for (String third : signs) {
                        Check.fault("law slip 1" + both + third + "2;", 1, 12);
                    }
                    // nothing stands behind the two
                    Check.fault("law slip 1" + both, 1, 12);
                } else {
                    Check.fault("law slip 1" + both + "2;", 1, 11);
                    Check.fault("law slip 1" + both, 1, 11);
                }
                Check.fault("law slip 1" + one + " " + other + "2;", 1, 12);
                Check.fault("law slip 1" + one + "\n" + other + "2;", 1, 12);
            }
        }
    }

    /** 2 too much: a ninth '(' open. */
    private static void open() {
        for (int many = 0; many <= 8; many++) {
            Check.holds("law slip " + "(".repeat(many) + "1" + ")".repeat(many) + ";", 1);
        }
        String eight = "(".repeat(8) + "1" + ")".repeat(8);
        Check.holds("law slip " + eight + "+" + eight + ";law wear " + eight + "-" + eight + ";", 2);
        Check.holds("law slip ((((((((1)+(2))+(3))))))) + (" + "(((((((4))))))));", 1);
        Check.fault("law slip " + "(".repeat(9) + "1" + ")".repeat(9) + ";", 2, 17);
        Check.fault("law slip " + "(".repeat(9), 2, 17);
        Check.fault("law slip " + "(".repeat(300), 2, 17);
        Check.fault("law slip " + eight + "+" + "(".repeat(9), 2, 35);
        Check.fault("law slip 1;law wear " + "(".repeat(9), 2, 28);
        Check.fault("law slip ((((((((1)+((", 2, 21);
        Check.fault("law slip ((((((((1+(", 2, 19);
        Check.fault("law slip not((((((((1)or(not(", 2, 28);
    }

    /** A KNOT: N, NAMES, signs but ( and ), not, and, or: one each. */
    private static void knots() {
        Check.due("no KNOTS", Check.holds("man a 1 1;speed 5;", 2).count(3), 0);
        Check.due("KNOTS of N", Check.holds("law slip 9999;", 1).count(3), 1);
        Check.due("KNOTS of ( and )", Check.holds("law slip ((((((((1))))))));", 1).count(3), 1);
        Check.due("KNOTS of not", Check.holds("law slip not 1;", 1).count(3), 2);
        Check.due("KNOTS of not not", Check.holds("law slip not not 1;", 1).count(3), 3);
        for (String name : NAMES) {
            Check.due("KNOTS of " + name, Check.holds("law slip " + name + ";", 1).count(3), 1);
        }
        for (String sign : SIGNS) {
            Check.due("KNOTS of " + sign, Check.holds("law slip 1 " + sign + " (2);", 1).count(3), 3);
        }
    }

    /** A 65th KNOT of all E. */
    private static void knotsOfAll() {
        String[] joins = {"or", "and", "+", "-", "*", "/"};
        for (String join : joins) {
            // 31 signs, 32 N and a not
            String most = "not 1" + (" " + join + " 1").repeat(31);
            Check.due("64 KNOTS by " + join, Check.holds("law slip " + most + ";", 1).count(3), 64);
            Check.fault("law slip " + most + " " + join + " 1;", 2, 10 + most.length());
            Check.fault("law slip 1;law slip " + most + ";", 3, 15);
        }
        String thirty = "1" + " + 1".repeat(14) + " < 1";
        BeatParish x = Check.holds("law slip " + thirty + ";law wear " + thirty + ";", 2);
        Check.due("62 KNOTS of two", x.count(3), 62);
        String two = "law slip " + thirty + ";law wear " + thirty + ";law hush ";
        Check.due("64 KNOTS of three", Check.holds(two + "not (1);", 3).count(3), 64);
        Check.fault(two + "not not 1;", 2, two.length() + 8);
        Check.fault(two + "1 + 1;", 2, two.length() + 4);
        Check.due("63 KNOTS of three", Check.holds(two + "1;", 3).count(3), 63);
        // those of an earlier TEXT don't count
        for (int k = 0; k < 3; k++) {
            Check.due("64 KNOTS again", Check.tell(x, two + "not (1);"), 3);
            Check.due("64 KNOTS again, count", x.count(3), 64);
        }
        Check.due("KNOTS of one with a FAULT don't count", Check.tell(x, two + "not not 1;"), -1);
        Check.due("64 KNOTS behind it", Check.tell(x, two + "not 1;"), 3);
        Check.due("one KNOT behind it", Check.tell(x, "law wear 1;"), 1);
        Check.due("one KNOT", x.count(3), 1);
    }

    private static void knot65() {
        // 63 KNOTS and a sign, so that an N or NAME would be the 65th
        String most = "law slip " + "not ".repeat(62) + "1 + ";
        Check.holds("law slip " + "not ".repeat(61) + "1 + 2;", 1);
        Check.fault(most + "2;", 2, most.length());
        Check.fault(most + "10000;", 2, most.length());
        Check.fault(most + "(2);", 2, most.length() + 1);
        Check.fault(most + "(not 2);", 2, most.length() + 1);
        for (String name : NAMES) {
            Check.fault(most + name + ";", 2, most.length());
        }
        String all = "law slip " + "not ".repeat(63) + "1 ";
        for (String sign : SIGNS) {
            Check.fault(all + sign + " 1;", 2, all.length());
            Check.fault(all + sign, 2, all.length());
        }
    }

    /** The first along the text, of one place the least. */
    private static void leastOfOnePlace() {
        String all = "law slip " + "not ".repeat(63) + "1 ";
        String[] none = {"1", "beat", "not", "(", ")", "law", "a", "?", "10000"};
        for (String one : none) {
            Check.fault(all + one + ";", 1, all.length());
        }
        String most = "law slip " + "not ".repeat(62) + "1 + ";
        Check.fault(most + "*", 1, most.length());
        Check.fault(most + "not", 1, most.length());
        Check.fault(most, 1, most.length());
        Check.fault("law slip ((((((((1(", 1, 18);
        Check.fault("speed 7 10000;", 1, 8);
        Check.fault("law slip 1 10000;", 1, 11);
        Check.fault("speed speed;", 1, 6);
        Check.fault("speed 1;spring 1;speed spring", 1, 23);
        Check.fault(PEOPLE + "speed man;", 1, 66);
        Check.fault(PEOPLE + "man", 2, 60);
        Check.fault("tie abcdefg abcdefg;", 1, 4);
        Check.fault("man a 1 1;tie a abcdefg;", 1, 16);
        Check.fault("law law 1;law slip 10000", 1, 4);
    }

    private static void firstAlong() {
        Check.fault("man a 0 100;", 2, 6);
        Check.fault("man a 0 1;man a 1 1;", 2, 6);
        Check.fault("man a 1 1;man a 0 1;", 3, 14);
        Check.fault("man a 1 1;man b 0 1;man a 1 1;", 2, 16);
        Check.fault("speed 0;?", 2, 6);
        Check.fault("speed 1;?speed 0;", 1, 8);
        Check.fault("tie a a;", 4, 4);
        Check.fault("man a 1 1;tie a a 5;", 5, 16);
        Check.fault("man a 1 1;tie a b 5;", 4, 16);
        Check.fault("man a 1 1;tie a 5 a;", 1, 16);
        Check.fault("work p z 0 0 100;", 4, 7);
        Check.fault("man a 1 1;work p a 0 0 100;", 2, 19);
        Check.fault("man a 1 1;work p a 1 0 100;", 2, 21);
        Check.fault("spring 1000;spring 1;", 2, 7);
        Check.fault("law slip 10000 +;", 2, 9);
        Check.fault("law slip (1 + 10000;", 2, 14);
        Check.fault("law slip 1;law slip ?;", 3, 15);
        Check.fault("law wear ?;law slip 1;law slip 1;", 1, 9);
        Check.fault("speed 1" + " ".repeat(600), 1, 607);
    }

    /** Twenty bytes come behind the TAPE, four of each number, the highest first; not more than 700. */
    private static void feeding() {
        BeatParish x = new BeatParish();
        Check.due("P2 one", x.feed(0x73706565, 0x64203120, 0x3b202020, 0x20202020, 0x20202020), 20);
        Check.due("P2 two", x.feed(0x73706565, 0x64203220, 0x3b202020, 0x20202020, 0x20202020), 40);
        Check.due("P2 both", x.text(40), 2);
        Check.due("P2 bytes of the first", x.beat(), 1);
        for (int k = 1; k < 35; k++) {
            Check.due("P2 " + 20 * k, x.feed(0x20202020, 0x20202020, 0x20202020, 0x20202020, 0x20202020), 20 * k);
        }
        Check.due("P2 700", x.feed(0x73706565, 0x64203320, 0x20202020, 0x20202020, 0x2020203b), 700);
        for (int k = 0; k < 3; k++) {
            Check.due("P2 720", x.feed(0x3f3f3f3f, 0x3f3f3f3f, 0x3f3f3f3f, 0x3f3f3f3f, 0x3f3f3f3f), -1);
        }
        Check.due("P2 none come", x.text(701), -2);
        Check.due("P2 none come, 720", x.text(720), -2);
        Check.due("P2 all 700", x.text(700), 1);
        Check.due("P2 the last byte", x.beat(), 3);
        Check.due("P2 from the beginning", x.feed(-1, -1, -1, -1, -1), 20);
        Check.due("P2 bytes 255", x.text(20), -1);
        Check.due("P2 bytes 255 at", x.fault(1), 0);
        Check.feed(x, " ".repeat(699) + "?");
        Check.due("P2 byte 699", x.text(700), -1);
        Check.due("P2 byte 699 at", x.fault(1), 699);
        int[] five = {0x736565, 0x73000000, 0x7365, 0, 0};
        x.feed(five[0], five[1], five[2], five[3], five[4]);
        Check.due("P2 0 as the highest", x.text(1), -1);
        Check.due("P2 0 as the highest at", x.fault(1), 0);
    }

    /** The TAPE's first n bytes are the TEXT; it is empty then. */
    private static void firstBytes() {
        String text = "man bb 5 5;speed 10;tie bb bbb;";
        for (int n = 0; n <= text.length(); n++) {
            BeatParish x = new BeatParish();
            Check.feed(x, text);
            Check.due("P3 lines of " + n, x.text(n), n == 0 ? 0 : n == 11 ? 1 : n == 20 ? 2 : -1);
            Check.due("P3 empty behind " + n, x.text(1), -2);
            Check.due("P2 empty behind " + n, x.feed(0, 0, 0, 0, 0), 20);
        }
        cut("speed 200;", 8, 1, 8);
        cut("speed 200;", 7, 1, 7);
        cut("speed 2000;", 9, 2, 6);
        cut("man b 1 1;man c 1 1;tie c bb;", 27, 1, 27);
        cut("man b 1 1;man c 1 1;tie c bb;", 28, 4, 26);
        cut("man abcdefg 1 1;", 10, 1, 10);
        cut("man abcdefg 1 1;", 11, 1, 4);
        cut("law slip 1<=2;", 11, 1, 11);
        cut("law slip 1<=2;", 12, 1, 12);
        cut("law slip 1=>2;", 12, 1, 11);
        cut("man a 1 1; ;", 11, 0, -1);
    }

    private static void cut(String text, int n, int fault, int place) {
        BeatParish x = new BeatParish();
        Check.feed(x, text);
        Check.due("P3 the first " + n + " of " + text, x.text(n), fault == 0 ? 1 : -1);
        Check.due("P4 fault(0) of the first " + n + " of " + text, x.fault(0), fault);
        Check.due("P4 fault(1) of the first " + n + " of " + text, x.fault(1), place);
    }

    /** -2, and the TAPE stays: there are not so many, n is below 0. */
    private static void notSoMany() {
        BeatParish x = new BeatParish();
        int[] none = {1, -1, 20, 700, 701, Integer.MAX_VALUE, Integer.MIN_VALUE};
        for (int n : none) {
            Check.due("P3 text(" + n + ") of none", x.text(n), -2);
        }
        Check.feed(x, "speed 7;            speed 8;            ");
        int[] more = {41, -1, 60, 700, 701, Integer.MAX_VALUE, Integer.MIN_VALUE};
        for (int n : more) {
            Check.due("P3 text(" + n + ") of 40", x.text(n), -2);
        }
        Check.due("P3 all else stays with -2", x.beat(), 60);
        Check.due("P3 no FAULT with -2", x.fault(0), 0);
        Check.due("P2 the TAPE stays", Check.feed(x, "speed 9;"), 60);
        Check.due("P3 60 of 60", x.text(60), 3);
        Check.due("P3 SPEED 7", x.beat(), 7);
        Check.due("P3 it is empty then", x.text(1), -2);
        Check.due("P3 text(0)", x.text(0), 0);
        Check.due("P3 no SPEED", x.beat(), 60);
    }

    /** HOUR 0, all HERE, no HICCUPS, SHIFT 0, nothing SEEN, all KNOWN, no IMAGE, nothing to undo; nothing of earlier TEXTS. */
    private static void anew() {
        String much = PEOPLE + "tie a b;tie b c;tie c d;tie d e;tie e f;tie f a;work p a 99 5 0;work q b 99 5 0;work r f 1 1 0;"
            + "speed 5;speed 6;spring 9;wasp 99;seed 7;law slip 9;law wear 1 / 0;law hush 7;";
        for (int texts = 1; texts <= 4; texts++) {
            BeatParish x = new BeatParish();
            for (int k = 0; k < texts; k++) {
                Check.due("P3 much", Check.tell(x, much), 23);
                x.go(2);
                x.shift(9);
                x.wind(5);
                x.hiccup(0, 9);
                x.hiccup(5, 9);
                x.aunt(1, true);
                x.see(1, 0, 9, true);
                x.strike(0);
                x.known(1);
                x.keep();
            }
            Check.due("P3 of nothing", x.text(0), 0);
            same("P3 of nothing", x, new BeatParish());
        }
        String little = "man z 30 40;man y 30 40;work o z 999 1 0;";
        for (int texts = 1; texts <= 4; texts++) {
            BeatParish x = new BeatParish();
            for (int k = 0; k < texts; k++) {
                Check.tell(x, much);
            }
            Check.due("P3 little", Check.tell(x, little), 3);
            same("P3 little", x, Check.parish(little));
            Check.due("P3 no TIE of the TEXT ahead", x.tie(0, 1), 0);
            Check.due("P3 nobody has HICCUPS", x.goOn(), 1);
            Check.due("P3 no WASPS of the TEXT ahead", x.go(2), 2);
            Check.due("P3 no WASPS, no SPEED of the TEXT ahead", x.work(0, 4), 879);
            Check.due("P3 no law of the TEXT ahead", Check.man(x, 0, 2), 6);
            Check.due("P3 COIL without", x.count(5), 198);
        }
        noSeedOfEarlier(much);
    }

    private static void noSeedOfEarlier(String much) {
        String wasps = "man a 9 0;work p a 999 1 0;speed 20;wasp 50;";
        for (int texts = 1; texts <= 4; texts++) {
            BeatParish x = new BeatParish();
            for (int k = 0; k < texts; k++) {
                Check.tell(x, much);
            }
            Check.tell(x, wasps);
            BeatParish y = Check.parish(wasps);
            for (int hour = 0; hour < 12; hour++) {
                x.go(1);
                y.go(1);
                Check.due("P3 no seed of the TEXT ahead, HOUR " + hour, x.work(0, 4), y.work(0, 4));
            }
        }
    }

    private static void same(String what, BeatParish x, BeatParish y) {
        for (int k = 0; k < 14; k++) {
            Check.due(what + ": count(" + k + ")", x.count(k), y.count(k));
        }
        for (int one = 0; one < 7; one++) {
            for (int k = 0; k < 6; k++) {
                Check.due(what + ": man(" + one + ", " + k + ")", Check.man(x, one, k), Check.man(y, one, k));
                Check.due(what + ": work(" + one + ", " + k + ")", x.work(one, k), y.work(one, k));
                Check.due(what + ": tie(" + one + ", " + k + ")", x.tie(one, k), y.tie(one, k));
                Check.due(what + ": law(" + k + ", " + one + ")", x.law(k, one), y.law(k, one));
            }
            Check.due(what + ": reaches(" + one + ")", x.reaches(one), y.reaches(one));
        }
        Check.due(what + ": beat()", x.beat(), y.beat());
        Check.due(what + ": goOn()", x.goOn(), y.goOn());
        Check.due(what + ": idle()", x.idle(), y.idle());
        Check.due(what + ": bars(255)", x.bars(255), y.bars(255));
        Check.due(what + ": shifts()", x.shifts(), y.shifts());
        Check.due(what + ": back()", x.back(), -1);
        Check.due(what + ": undo()", x.undo(), -1);
        Check.due(what + ": fault(0)", x.fault(0), 0);
        Check.due(what + ": fault(1)", x.fault(1), -1);
    }

    /** Of the latest text() that was not -2; NONE for another what. */
    private static void faultAsked() {
        BeatParish x = new BeatParish();
        asked(x, 0, -1);
        x.text(5);
        asked(x, 0, -1);
        Check.tell(x, "speed 0;");
        asked(x, 2, 6);
        x.text(-1);
        asked(x, 2, 6);
        x.text(1);
        asked(x, 2, 6);
        Check.tell(x, "speed 5;");
        asked(x, 0, -1);
        Check.tell(x, "tie a b;");
        asked(x, 4, 4);
        Check.tell(x, "?");
        asked(x, 1, 0);
        x.text(0);
        asked(x, 0, -1);
        Check.tell(x, "man a 1 1;man a 1 1;");
        asked(x, 3, 14);
        Check.tell(x, "man a 1 1;tie a a;");
        asked(x, 5, 16);
        x.go(1);
        x.shift(5);
        x.keep();
        x.back();
        asked(x, 5, 16);
    }

    private static void asked(BeatParish x, int fault, int place) {
        Check.due("P4 fault(0)", x.fault(0), fault);
        Check.due("P4 fault(1)", x.fault(1), place);
        int[] others = {-1, 2, 3, Integer.MAX_VALUE, Integer.MIN_VALUE};
        for (int what : others) {
            Check.due("P4 fault(" + what + ")", x.fault(what), -1);
        }
    }

    /** NONE with a FAULT, all else stays, whatever was told ahead of the FAULT. */
    private static void faultLeavesAll() {
        String text = "man a 40 50;man b 30 90;tie a b;work p a 500 5 0;work q b 400 7 1;speed 40;speed 50;spring 300;wasp 40;"
            + "seed 11;law slip beat / 9;law wear 2;law hush 3;";
        String other = "man b 10 10;man c 10 10;man a 10 10;tie c a;work r a 50 1 0;speed 9;spring 9;wasp 90;seed 90;"
            + "law slip 1;law wear 1;law hush 1 + 1;";
        for (int n = 1; n < other.length(); n++) {
            BeatParish x = lived(text);
            BeatParish y = lived(text);
            boolean whole = other.charAt(n - 1) == ';';
            Check.feed(x, other);
            if (whole) {
                Check.tell(x, other.substring(0, n) + "?");
            } else {
                Check.due("P3 a FAULT in " + n, x.text(n), -1);
            }
            for (int what = 0; what < 14; what++) {
                Check.due("P3 count(" + what + ") behind a FAULT in " + n, x.count(what), y.count(what));
            }
            Check.due("P3 PERSON a behind a FAULT in " + n, x.named(0, Check.letters("a")), 0);
            Check.due("P3 PERSON c behind a FAULT in " + n, x.named(0, Check.letters("c")), -1);
            Check.due("P3 WORK r behind a FAULT in " + n, x.named(1, Check.letters("r")), -1);
            Check.due("P3 shifts() behind a FAULT in " + n, x.shifts(), y.shifts());
            Check.due("P3 law(0) behind a FAULT in " + n, x.law(0, 0), y.law(0, 0));
            Check.due("P3 law(2) behind a FAULT in " + n, x.law(2, 0), 3);
            Check.due("P3 undo() behind a FAULT in " + n, x.undo(), y.undo());
            x.go(5);
            y.go(5);
            for (int work = 0; work < 2; work++) {
                Check.due("P3 left of " + work + " behind a FAULT in " + n, x.work(work, 4), y.work(work, 4));
                Check.due("P3 SLIPS of " + work + " behind a FAULT in " + n, Check.man(x, work, 2), Check.man(y, work, 2));
            }
            Check.due("P3 COIL behind a FAULT in " + n, x.count(5), y.count(5));
            Check.due("P3 IMAGE behind a FAULT in " + n, x.back(), 3);
        }
    }

    private static BeatParish lived(String text) {
        BeatParish x = Check.parish(text);
        x.go(3);
        x.keep();
        x.shift(4);
        x.hiccup(1, 2);
        x.see(2, 0, 420, false);
        x.see(3, 1, 300, true);
        x.strike(0);
        x.known(2);
        return x;
    }

    /** 5 bits each (a is 1; the first one highest of six, 0 behind the last one). */
    private static void named() {
        for (int place = 0; place < 6; place++) {
            for (char letter = 'a'; letter <= 'z'; letter++) {
                String name = "zqzqz".substring(0, place) + letter + "qzqzq".substring(place);
                String brief = "zqzqz".substring(0, place) + letter;
                BeatParish x = Check.parish("man " + name + " 1 1;" + (place < 5 ? "man " + brief + " 1 1;" : ""));
                Check.due("P5 " + name, x.named(0, Check.letters(name)), 0);
                Check.due("P5 " + brief, x.named(0, Check.letters(brief)), place < 5 ? 1 : 0);
            }
        }
        BeatParish x = Check.parish("man a 1 1;man aa 1 1;work z a 1 1 0;");
        int[][] due = {{1 << 25, 0}, {1 << 25 | 1 << 20, 1}, {1 << 25 | 1 << 15, -1}, {1, -1}, {1 << 20, -1}, {0, -1}, {-1, -1},
            {1 << 25 | 1 << 30, -1}, {1 << 25 | 1 << 31, -1}, {1 << 25 | 1, -1}, {2 << 25, -1}, {26 << 25, -1}, {27 << 25, -1},
            {31 << 25, -1}, {Integer.MAX_VALUE, -1}, {Integer.MIN_VALUE, -1}};
        for (int[] one : due) {
            Check.due("P5 named(0, " + one[0] + ")", x.named(0, one[0]), one[1]);
        }
        Check.due("P5 WORK z", x.named(1, 26 << 25), 0);
        Check.due("P5 WORK a", x.named(1, 1 << 25), -1);
        int[] others = {-1, 2, 3, Integer.MAX_VALUE, Integer.MIN_VALUE};
        for (int what : others) {
            Check.due("P5 what " + what, x.named(what, 1 << 25), -1);
            Check.due("P5 what " + what + " of z", x.named(what, 26 << 25), -1);
        }
        Check.due("P5 nobody is told", new BeatParish().named(0, 1 << 25), -1);
        Check.due("P5 nobody is told, 0", new BeatParish().named(0, 0), -1);
        Check.due("P5 no WORK is told", new BeatParish().named(1, 0), -1);
    }
}
