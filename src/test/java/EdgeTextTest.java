/** Terms and promises 1 to 5: of each limit the last that is allowed and the first that isn't, at both ends. */
final class EdgeTextTest {
    private static final String[] LANGUAGE = {"man", "tie", "work", "speed", "spring", "wasp", "seed", "law", "slip", "wear",
        "hush", "not", "and", "or", "beat", "fast", "aged", "left", "bar", "coil", "hour"};
    // ten bytes each
    private static final String PEOPLE = "man a 1 1;man b 1 1;man c 1 1;man d 1 1;man e 1 1;man f 1 1;";

    private EdgeTextTest() {
    }

    public static void main(String[] args) {
        oneByte();
        byteInNumber();
        byteInWord();
        blanks();
        words();
        lineForms();
        numbers();
        numbersKept();
        people();
        ties();
        works();
        speeds();
        once();
        without();
        Check.end();
    }

    /** Blanks 10, 32; of all other bytes none is a TEXT by itself. */
    private static void oneByte() {
        for (int b = 0; b < 256; b++) {
            BeatParish x = Check.parish("speed 7;");
            x.feed(b << 24, 0, 0, 0, 0);
            boolean blank = b == 10 || b == 32;
            Check.due("a TEXT of byte " + b, x.text(1), blank ? 0 : -1);
            Check.due("fault(0) of byte " + b, x.fault(0), blank ? 0 : 1);
            Check.due("fault(1) of byte " + b, x.fault(1), blank ? -1 : 0);
            Check.due("beat() behind byte " + b, x.beat(), blank ? 60 : 7);
        }
    }

    /** N: digits. */
    private static void byteInNumber() {
        for (int b = 0; b < 256; b++) {
            BeatParish x = new BeatParish();
            boolean digit = b >= '0' && b <= '9';
            boolean ends = b == 10 || b == 32 || b == ';';
            Check.due("byte " + b + " in a number", Check.tell(x, "speed 1" + (char) b + "2;"), digit ? 1 : -1);
            Check.due("beat() of byte " + b + " in a number", x.beat(), digit ? 102 + 10 * (b - '0') : 60);
            Check.due("fault(0) of byte " + b + " in a number", x.fault(0), digit ? 0 : 1);
            Check.due("fault(1) of byte " + b + " in a number", x.fault(1), digit ? -1 : ends ? 8 : 7);
        }
    }

    /** Words: small letters in a row. */
    private static void byteInWord() {
        for (int b = 0; b < 256; b++) {
            BeatParish x = new BeatParish();
            boolean letter = b >= 'a' && b <= 'z';
            boolean ends = b == 10 || b == 32 || b >= '1' && b <= '9';
            Check.due("byte " + b + " in a word", Check.tell(x, "man a" + (char) b + "c 7 7;"), letter ? 1 : -1);
            // 0 is a number, but none of FAST
            Check.due("fault(0) of byte " + b + " in a word", x.fault(0), letter ? 0 : b == '0' ? 2 : 1);
            Check.due("fault(1) of byte " + b + " in a word", x.fault(1), letter ? -1 : ends ? 6 : 5);
            if (letter) {
                Check.due("named byte " + b, x.named(0, Check.letters("a" + (char) b + "c")), 0);
            }
        }
    }

    private static void blanks() {
        Check.holds("", 0);
        Check.holds("   \n\n ", 0);
        Check.holds(" \n speed\n7\n;\n ", 1);
        Check.holds("man a1 1;work a a1 1 1;speed7;law slip(1)or not(beat);", 4);
        Check.fault("spe ed 7;", 1, 0);
        Check.fault("speed 1 7;", 1, 8);
        Check.fault("\r", 1, 0);
        Check.fault("speed 7;\u00a0", 1, 8);
    }

    /** W: one of 1 .. 6 letters, none of those of the language. */
    private static void words() {
        Check.holds("man z 1 1;man zz 1 1;man zzz 1 1;man zzzz 1 1;man zzzzz 1 1;man zzzzzz 1 1;", 6);
        Check.holds("man a 1 1;work z a 1 1 0;work zzzzzz a 1 1 0;", 3);
        String[] nearly = {"ma", "mann", "no", "nots", "an", "ands", "o", "r", "ors", "sprin", "bars", "hours", "laws", "slips"};
        for (String word : nearly) {
            BeatParish x = Check.holds("man " + word + " 1 1;work " + word + " " + word + " 1 1 0;", 2);
            Check.due("P5 PERSON " + word, x.named(0, Check.letters(word)), 0);
            Check.due("P5 WORK " + word, x.named(1, Check.letters(word)), 0);
        }
        for (String word : LANGUAGE) {
            noWord(word);
        }
        noWord("abcdefg");
        noWord("aaaaaaa");
        noWord("springs");
        noWord("a".repeat(300));
        noWord("7");
        noWord(";");
        noWord("(");
    }

    private static void noWord(String word) {
        Check.fault("man " + word + " 1 1;", 1, 4);
        Check.fault("man a 1 1;work " + word + " a 1 1 0;", 1, 15);
        Check.fault("man a 1 1;work p " + word + " 1 1 0;", 1, 17);
        Check.fault("man a 1 1;tie " + word + " a;", 1, 14);
        Check.fault("man a 1 1;tie a " + word + ";", 1, 16);
    }

    /** Each LINE, cut behind each TOKEN, with one more, with one of another kind. */
    private static void lineForms() {
        String[] lines = {"man z 5 6", "tie a b", "work p a 5 6 7", "speed 5", "spring 5", "wasp 5", "seed 5", "law slip 5",
            "law wear coil", "law hush not 3"};
        for (String line : lines) {
            Check.holds("man a 1 1;man b 1 1;" + line + ";", 3);
            String[] tokens = line.split(" ");
            String ahead = "man a 1 1;man b 1 1;";
            for (int k = 0; k < tokens.length; k++) {
                if (k > 0) {
                    Check.fault(ahead.trim(), 1, ahead.trim().length());
                    Check.fault(ahead + ";", 1, ahead.length());
                }
                String behind = line.substring(ahead.length() - 20 + tokens[k].length());
                Check.fault(ahead + "?" + behind + ";", 1, ahead.length());
                Check.fault(ahead + ")" + behind + ";", 1, ahead.length());
                if (k > 0) {
                    String other = tokens[k].matches("[0-9]+") ? "q" : "<";
                    Check.fault(ahead + other + behind + ";", 1, ahead.length());
                }
                ahead += tokens[k] + " ";
            }
            Check.fault(ahead, 1, ahead.length());
            Check.fault(ahead + "4;", 1, ahead.length());
            Check.fault(ahead + "b;", 1, ahead.length());
            Check.fault(ahead + "man c 1 1;", 1, ahead.length());
        }
        Check.fault(";", 1, 0);
        Check.fault("speed 5;;", 1, 8);
        for (int k = 8; k < LANGUAGE.length; k++) {
            Check.fault(LANGUAGE[k] + " 5;", 1, 0);
        }
        for (String word : LANGUAGE) {
            boolean law = word.equals("slip") || word.equals("wear") || word.equals("hush");
            if (law) {
                Check.holds("law " + word + " 5;", 1);
            } else {
                Check.fault("law " + word + " 5;", 1, 4);
            }
        }
    }

    /** 2 too much (at it): a number beyond what is said. */
    private static void numbers() {
        limits("man a ", 1, 199, " 1;");
        limits("man a 1 ", 0, 99, ";");
        limits("man a 1 1;work p a ", 1, 999, " 1 0;");
        limits("man a 1 1;work p a 1 ", 1, 12, " 0;");
        limits("man a 1 1;work p a 1 1 ", 0, 99, ";");
        limits("speed ", 1, 199, ";");
        limits("spring ", 0, 999, ";");
        limits("wasp ", 0, 100, ";");
        limits("seed ", 0, 99999, ";");
        limits("law slip ", 0, 9999, ";");
        limits("law wear 1 + ", 0, 9999, " * 2;");
        limits("law hush (", 0, 9999, ");");
    }

    private static void limits(String ahead, int least, int most, String behind) {
        int lines = (ahead + behind).length() - (ahead + behind).replace(";", "").length();
        Check.holds(ahead + least + behind, lines);
        Check.holds(ahead + most + behind, lines);
        Check.holds(ahead + "00000000000000000000" + most + behind, lines);
        if (least > 0) {
            Check.fault(ahead + (least - 1) + behind, 2, ahead.length());
            Check.fault(ahead + "000" + behind, 2, ahead.length());
        }
        long[] far = {most + 1, 10L * most, 99999999, 1L << 31, 1L << 32, (1L << 32) + least, Long.MAX_VALUE};
        for (long number : far) {
            Check.fault(ahead + number + behind, 2, ahead.length());
        }
        Check.fault(ahead + "9".repeat(200) + behind, 2, ahead.length());
        // 2 to the 64 and the least one
        Check.fault(ahead + "1844674407370955161" + (6 + least) + behind, 2, ahead.length());
    }

    private static void numbersKept() {
        BeatParish x = Check.parish("man a 199 99;man b 1 0;work p b 999 12 99;work q a 1 1 0;speed 199;speed 1;spring 999;");
        int[][] men = {{199, 99}, {1, 0}};
        int[][] works = {{1, 999, 12, 99}, {0, 1, 1, 0}};
        for (int one = 0; one < 2; one++) {
            for (int what = 0; what < 2; what++) {
                Check.due("kept man(" + one + ", " + what + ")", Check.man(x, one, what), men[one][what]);
            }
            for (int what = 0; what < 4; what++) {
                Check.due("kept work(" + one + ", " + what + ")", x.work(one, what), works[one][what]);
            }
        }
        Check.due("kept SPEED 199", x.beat(), 199);
        Check.due("kept COIL 999", x.count(5), 999);
        x.go(1);
        Check.due("kept SPEED 1", x.beat(), 1);
        Check.due("kept N 9999", Check.parish("law wear 9999;").law(1, 0), 9999);
        Check.due("kept N 0", Check.parish("law wear 0;").law(1, 0), 0);
    }

    /** PEOPLE, at most 6, numbered as they come. */
    private static void people() {
        Check.due("no PEOPLE", new BeatParish().count(0), 0);
        for (int many = 1; many <= 6; many++) {
            BeatParish x = Check.holds(PEOPLE.substring(0, 10 * many), many);
            Check.due(many + " PEOPLE", x.count(0), many);
            Check.due(many + " PEOPLE, the last", x.named(0, Check.letters("" + (char) ('a' + many - 1))), many - 1);
            Check.due(many + " PEOPLE, none behind", x.named(0, Check.letters("" + (char) ('a' + many))), -1);
            Check.due(many + " PEOPLE, HERE", x.count(10), many);
            Check.due(many + " PEOPLE, HICCUPS", x.count(9), 0);
        }
        Check.fault(PEOPLE + "man g 1 1;", 2, 60);
        Check.fault(PEOPLE + "man", 2, 60);
        Check.fault(PEOPLE + "man a", 2, 60);
        Check.fault(PEOPLE + "man man 0 0;", 2, 60);
        Check.fault("man a 1 1;man a 1 1;", 3, 14);
        Check.fault(PEOPLE.substring(0, 50) + "man a 1 1;", 3, 54);
        Check.fault("man a 1 1;man a", 3, 14);
        Check.fault("man abcdef 1 1;man abcdef 0 1;", 3, 19);
        Check.holds("man abcdef 1 1;man abcdeg 1 1;man abcde 1 1;man bbcdef 1 1;man aaaaaa 1 1;man aaaaab 1 1;", 6);
    }

    /** TIES, at most 9, of two unlike PEOPLE, each two once, either way. */
    private static void ties() {
        String nine = PEOPLE + "tie a b;tie a c;tie a d;tie a e;tie a f;tie b c;tie b d;tie b e;tie b f;";
        Check.due("no TIES", Check.holds(PEOPLE, 6).count(1), 0);
        for (int many = 1; many <= 9; many++) {
            BeatParish x = Check.holds(nine.substring(0, 60 + 8 * many), 6 + many);
            Check.due(many + " TIES", x.count(1), many);
        }
        Check.fault(nine + "tie c d;", 2, 132);
        Check.fault(nine + "tie", 2, 132);
        Check.fault(nine + "tie a a;", 2, 132);
        Check.fault(nine + "tie z z;", 2, 132);
        for (int one = 0; one < 6; one++) {
            for (int other = 0; other < 6; other++) {
                String a = "" + (char) ('a' + one);
                String b = "" + (char) ('a' + other);
                if (one == other) {
                    Check.fault(PEOPLE + "tie " + a + " " + b + ";", 5, 66);
                    Check.fault(PEOPLE + "tie " + a + " " + b, 5, 66);
                } else {
                    Check.fault(PEOPLE + "tie " + a + " " + b + ";tie " + a + " " + b + ";", 3, 74);
                    Check.fault(PEOPLE + "tie " + a + " " + b + ";tie " + b + " " + a, 3, 74);
                    tied(one, other, Check.holds(PEOPLE + "tie " + a + " " + b + ";", 7));
                }
            }
        }
        Check.fault("tie a b;", 4, 4);
        Check.fault("tie a b;man a 1 1;man b 1 1;", 4, 4);
        Check.fault("man a 1 1;tie a b;man b 1 1;", 4, 16);
        Check.fault("man a 1 1;tie b a;", 4, 14);
        Check.fault("man a 1 1;tie b b;", 4, 14);
        Check.fault("man a 1 1;work p a 1 1 0;tie a p;", 4, 31);
        Check.fault("tie zz zz;", 4, 4);
        Check.fault("man abcdef 1 1;tie abcdef abcde;", 4, 26);
    }

    private static void tied(int one, int other, BeatParish x) {
        for (int a = 0; a < 6; a++) {
            for (int b = 0; b < 6; b++) {
                boolean tied = a == one && b == other || a == other && b == one;
                Check.due("P8 " + one + " and " + other + ": tie(" + a + ", " + b + ")", x.tie(a, b), tied ? 1 : 0);
            }
        }
    }

    /** WORKS, at most 8, of a PERSON. */
    private static void works() {
        StringBuilder text = new StringBuilder("man a 1 1;");
        Check.due("no WORKS", Check.holds(text.toString(), 1).count(2), 0);
        for (int many = 1; many <= 8; many++) {
            char name = (char) ('o' + many);
            text.append("work ").append(name).append(" a ").append(many).append(" 1 0;");
            BeatParish x = Check.holds(text.toString(), 1 + many);
            Check.due(many + " WORKS", x.count(2), many);
            Check.due(many + " WORKS, the last", x.work(many - 1, 1), many);
            Check.due(many + " WORKS, named", x.named(1, Check.letters("" + name)), many - 1);
            Check.due(many + " WORKS, none behind", x.work(many, 1), -1);
        }
        int behind = text.length();
        Check.fault(text + "work z a 1 1 0;", 2, behind);
        Check.fault(text + "work", 2, behind);
        Check.fault(text + "work p", 2, behind);
        Check.fault(text + "work p z", 2, behind);
        Check.fault("man a 1 1;work p a 1 1 0;work p a 1 1 0;", 3, 30);
        Check.fault("man a 1 1;work p a 1 1 0;work p", 3, 30);
        Check.fault("work p a 1 1 0;", 4, 7);
        Check.fault("work p a 1 1 0;man a 1 1;", 4, 7);
        Check.fault("man a 1 1;work p p 1 1 0;", 4, 17);
        Check.fault("man a 1 1;work p a 1 1 0;work q p 1 1 0;", 4, 32);
        Check.fault("work p zz 1 1 0;", 4, 7);
        Check.fault("man a 1 1;work p b", 4, 17);
        BeatParish x = Check.holds("man a 1 1;work a a 1 1 0;work b a 1 1 0;man b 1 1;", 4);
        Check.due("names of their kind: WORK b", x.named(1, Check.letters("b")), 1);
        Check.due("names of their kind: PERSON b", x.named(0, Check.letters("b")), 1);
    }

    /** SPEEDS, at most 8, of HOUR 0 on, and again from the first one on (60 without). */
    private static void speeds() {
        StringBuilder text = new StringBuilder();
        for (int many = 0; many <= 8; many++) {
            BeatParish x = Check.holds(text.toString(), many);
            for (int hour = 0; hour < 18; hour++) {
                Check.due(many + " SPEEDS, HOUR " + hour, x.beat(), many == 0 ? 60 : 10 + hour % many);
                x.go(1);
            }
            text.append("speed ").append(10 + many).append(';');
        }
        Check.fault(text.toString(), 2, 72);
        Check.fault(text.substring(0, 72) + "speed", 2, 72);
        Check.holds("speed 5;speed 5;", 2);
    }

    /** 3 told already: spring, wasp, seed (at the word), a law of its LAW (at LAW). */
    private static void once() {
        String[] words = {"spring", "wasp", "seed"};
        for (String word : words) {
            int length = word.length();
            Check.holds(word + " 1;", 1);
            Check.fault(word + " 1;" + word + " 1;", 3, length + 3);
            Check.fault(word + " 0;" + word + " 0;", 3, length + 3);
            Check.fault(word + " 1;" + word + " 100000;", 3, length + 3);
            Check.fault(word + " 1;" + word, 3, length + 3);
            Check.fault(word + " 1;speed 5;" + word + " 2;", 3, length + 11);
        }
        Check.holds("spring 1;wasp 1;seed 1;law slip 1;law wear 1;law hush 1;", 6);
        String[] laws = {"slip", "wear", "hush"};
        for (String law : laws) {
            Check.fault("law " + law + " 1;law " + law + " 1;", 3, 15);
            Check.fault("law " + law + " 1;law " + law, 3, 15);
            Check.fault("law " + law + " 1;law " + law + " 10000;", 3, 15);
            for (String other : laws) {
                if (!other.equals(law)) {
                    Check.holds("law " + law + " 1;law " + other + " 1;", 2);
                }
            }
        }
    }

    /** COIL 200, SPEED 60, wasp 0, seed 0 without. */
    private static void without() {
        BeatParish x = Check.holds("man a 1 1;work p a 999 1 0;", 2);
        Check.due("COIL without", x.count(5), 200);
        Check.due("SPEED without", x.beat(), 60);
        x.go(10);
        Check.due("no WASP without", x.work(0, 4), 399);
        for (int hours = 1; hours < 20; hours++) {
            BeatParish y = Check.parish("man a 1 1;work p a 999 1 0;speed 20;wasp 50;");
            BeatParish z = Check.parish("man a 1 1;work p a 999 1 0;speed 20;wasp 50;seed 0;");
            y.go(hours);
            z.go(hours);
            Check.due("seed 0 without, " + hours, y.work(0, 4), z.work(0, 4));
            Check.due("no seed 0 but the number behind it, " + hours, y.work(0, 4), leftBehind(0, hours));
        }
    }

    private static int leftBehind(long seed, int hours) {
        int left = 999;
        long number = seed;
        for (int hour = 0; hour < hours; hour++) {
            number = (number * 1103515245L + 12345L) % (1L << 31);
            left -= number / 65536 % 100 < 50 ? 40 : 20;
        }
        return left;
    }
}
