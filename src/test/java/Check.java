/** What the tests share: TEXTS told in letters, answers held against those that are due. */
final class Check {
    // a fault may make many answers wrong: the first ones tell enough
    private static final int PRINTED = 60;
    private static int passed = 0;
    private static int failed = 0;

    private Check() {
    }

    static void due(String call, long got, long want) {
        if (got == want) {
            passed++;
        } else {
            failed++;
            if (failed <= PRINTED) {
                System.out.println(call + " answered " + got + ", due is " + want);
            }
        }
    }

    static void due(String call, boolean got, boolean want) {
        due(call, got ? 1 : 0, want ? 1 : 0);
    }

    /** Feeds a text, filled up with blanks, and has it read. */
    static int tell(BeatParish x, String text) {
        feed(x, text);
        return x.text(text.length());
    }

    static int feed(BeatParish x, String text) {
        int has = 0;
        for (int from = 0; from < text.length(); from += 20) {
            has = x.feed(four(text, from), four(text, from + 4), four(text, from + 8), four(text, from + 12),
                four(text, from + 16));
        }
        return has;
    }

    private static int four(String text, int from) {
        int number = 0;
        for (int i = from; i < from + 4; i++) {
            number = number << 8 | (i < text.length() ? text.charAt(i) : ' ');
        }
        return number;
    }

    static BeatParish parish(String text) {
        BeatParish x = new BeatParish();
        if (tell(x, text) < 0) {
            failed++;
            System.out.println("fault " + x.fault(0) + " at " + x.fault(1) + " of " + text);
        }
        return x;
    }

    /** A text on an object that has read another one: what it answers, its FAULT and its place. */
    static void fault(String text, int fault, int place) {
        BeatParish x = parish("man zz 9 9;");
        due("text " + text, tell(x, text), -1);
        due("fault(0) of " + text, x.fault(0), fault);
        due("fault(1) of " + text, x.fault(1), place);
        due("count(0) behind " + text, x.count(0), 1);
        due("named zz behind " + text, x.named(0, letters("zz")), 0);
    }

    /** A text that holds, on a new object. */
    static BeatParish holds(String text, int lines) {
        BeatParish x = new BeatParish();
        due("text " + text, tell(x, text), lines);
        due("fault(0) of " + text, x.fault(0), 0);
        due("fault(1) of " + text, x.fault(1), -1);
        return x;
    }

    static int letters(String name) {
        int letters = 0;
        for (int i = 0; i < 6; i++) {
            letters = letters << 5 | (i < name.length() ? name.charAt(i) - 'a' + 1 : 0);
        }
        return letters;
    }

    /** What man() answers; -100 for IndexOutOfBoundsException, -200 for NoSuchElementException. */
    static int man(BeatParish x, int man, int what) {
        try {
            return x.man(man, what);
        } catch (IndexOutOfBoundsException e) {
            return -100;
        } catch (java.util.NoSuchElementException e) {
            return -200;
        }
    }

    static void end() {
        System.out.println(passed + " passed, " + failed + " failed");
        System.exit(failed == 0 && passed > 0 ? 0 : 1);
    }
}
