/** Promises 42 to 45: undo, keep, back, count. */
final class UndoTest {
    private UndoTest() {
    }

    public static void main(String[] args) {
        undone();
        many();
        manyKinds();
        hours();
        images();
        counts();
        Check.end();
    }

    private static void undone() {
        BeatParish x = Check.parish("man a 5 0;man b 5 0;tie a b;spring 500;");
        Check.due("P42 none", x.undo(), -1);
        x.shift(7);
        x.wind(30);
        x.hiccup(0, 5);
        x.hiccup(0, 2);
        x.aunt(0, true);
        x.aunt(0, false);
        x.shift(-7);
        Check.due("P45 what can be undone", x.count(13), 7);
        x.shift(-7);
        x.wind(999);
        x.hiccup(0, 0);
        x.aunt(1, false);
        Check.due("P45 refused calls don't count", x.count(13), 7);
        Check.due("P42 shift", x.undo(), 6);
        Check.due("P42 SHIFT 7", x.count(6), 7);
        Check.due("P42 back from the aunt", x.undo(), 5);
        Check.due("P42 not HERE", Check.man(x, 0, 4), 0);
        Check.due("P42 to the aunt", x.undo(), 4);
        Check.due("P42 HERE", Check.man(x, 0, 4), 1);
        Check.due("P42 HICCUPS again", Check.man(x, 0, 3), 2);
        Check.due("P42 HICCUPS", x.undo(), 3);
        Check.due("P42 5", Check.man(x, 0, 3), 5);
        Check.due("P42 the first HICCUPS", x.undo(), 2);
        Check.due("P42 0", Check.man(x, 0, 3), 0);
        Check.due("P42 wound", x.undo(), 1);
        Check.due("P42 COIL 500", x.count(5), 500);
        Check.due("P42 the first", x.undo(), 0);
        Check.due("P42 SHIFT 0", x.count(6), 0);
        Check.due("P42 none left", x.undo(), -1);
        x.aunt(1, true);
        x.aunt(1, false);
        x.hiccup(1, 3);
        x.undo();
        x.undo();
        Check.due("P42 away again", Check.man(x, 1, 4), 0);
        Check.due("P42 away without HICCUPS", Check.man(x, 1, 3), 0);
    }

    private static void many() {
        BeatParish x = new BeatParish();
        for (int k = 1; k <= 25; k++) {
            x.shift(k);
            Check.due("P42 20 at most", x.count(13), Math.min(k, 20));
        }
        for (int k = 19; k >= 0; k--) {
            Check.due("P42 how many are left", x.undo(), k);
            Check.due("P42 SHIFT", x.count(6), k + 5);
        }
        Check.due("P42 the first five are not undone", x.undo(), -1);
    }

    /** 24 deeds of all kinds in turns: the first four, one of each kind, can't be undone. */
    private static void manyKinds() {
        BeatParish x = Check.parish("man a 5 0;man b 5 0;man c 5 0;spring 9;");
        for (int k = 1; k <= 6; k++) {
            x.shift(k);
            x.wind(k);
            x.hiccup(k % 2, k);
            x.aunt(2, k % 2 == 1);
        }
        for (int k = 6; k >= 2; k--) {
            Check.due("P42 the aunt, " + k, Check.man(x, 2, 4), k % 2 == 1 ? 0 : 1);
            x.undo();
            Check.due("P42 the aunt before, " + k, Check.man(x, 2, 4), k % 2 == 1 ? 1 : 0);
            Check.due("P42 HICCUPS, " + k, Check.man(x, k % 2, 3), k);
            x.undo();
            Check.due("P42 HICCUPS before, " + k, Check.man(x, k % 2, 3), Math.max(0, k - 2));
            Check.due("P42 COIL, " + k, x.count(5), 9 + k * (k + 1) / 2);
            x.undo();
            Check.due("P42 COIL before, " + k, x.count(5), 9 + k * (k - 1) / 2);
            x.undo();
            Check.due("P42 SHIFT before, " + k, x.count(6), k - 1);
        }
        Check.due("P42 no more", x.undo(), -1);
        Check.due("P42 the first aunt stays", Check.man(x, 2, 4), 0);
    }

    private static void hours() {
        BeatParish x = new BeatParish();
        x.shift(5);
        x.go(0);
        Check.due("P42 no HOUR went by", x.count(13), 1);
        x.go(100);
        Check.due("P42 none did", x.count(13), 1);
        x.go(1);
        Check.due("P42 an HOUR went by", x.count(13), 0);
        Check.due("P42 none", x.undo(), -1);
        x.shift(6);
        x.stops();
        x.pace(5, 0);
        x.keep();
        Check.due("P42 only since", x.undo(), 0);
        Check.due("P42 SHIFT 5", x.count(6), 5);
    }

    private static void images() {
        BeatParish x = Check.parish("man a 5 0;man b 50 0;tie a b;work p a 100 1 0;work q b 90 1 2;wasp 30;seed 5;speed 30;");
        Check.due("P44 there is none", x.back(), -1);
        x.shift(3);
        Check.due("P44 undo stays then", x.count(13), 1);
        x.go(2);
        x.hiccup(0, 2);
        x.aunt(1, true);
        Check.due("P43 which HOUR", x.keep(), 2);
        Check.due("P43 undo stays", x.count(13), 2);
        x.see(1, 0, 1, true);
        int[] before = state(x);
        x.go(5);
        int[] later = state(x);
        x.wind(3);
        x.see(2, 0, 1, true);
        x.known(1);
        Check.due("P44 which HOUR", x.back(), 2);
        Check.due("P44 nothing to undo", x.count(13), 0);
        Check.due("P44 undo", x.undo(), -1);
        same("P44 as in the IMAGE", state(x), before);
        Check.due("P44 SEEN stays", x.count(11), 2);
        Check.due("P44 KNOWN stays", x.count(12), 1);
        x.go(5);
        same("P44 the numbers, too", state(x), later);
        Check.due("P44 once more", x.back(), 2);
        same("P44 as in the IMAGE again", state(x), before);
        Check.tell(x, "man");
        Check.due("P44 the FAULT stays", x.fault(0), 1);
        Check.feed(x, "speed 9;");
        x.back();
        Check.due("P44 the FAULT stays behind it", x.fault(0), 1);
        x.go(1);
        Check.due("P43 in place of one ahead", x.keep(), 3);
        x.go(1);
        Check.due("P44 the later one", x.back(), 3);
        Check.due("P44 the TAPE stays", x.text(8), 1);
        Check.due("P44 no IMAGE of another TEXT", x.back(), -1);
    }

    private static int[] state(BeatParish x) {
        int[] state = new int[20];
        int n = 0;
        for (int man = 0; man < 2; man++) {
            for (int what = 2; what < 6; what++) {
                state[n++] = Check.man(x, man, what);
            }
        }
        for (int work = 0; work < 2; work++) {
            state[n++] = x.work(work, 4);
            state[n++] = x.work(work, 5);
        }
        for (int what = 4; what < 11; what++) {
            state[n++] = x.count(what);
        }
        return state;
    }

    private static void same(String what, int[] got, int[] due) {
        for (int i = 0; i < due.length; i++) {
            Check.due(what + ", " + i, got[i], due[i]);
        }
    }

    private static void counts() {
        BeatParish x = Check.parish("man a 5 0;man b 5 0;man c 5 0;tie a b;tie c b;work p a 100 1 0;work q b 20 1 0;"
            + "work r b 9 1 0;work s c 9 1 5;speed 25;law slip 2;law wear 3 + 4;spring 100;");
        x.shift(-5);
        x.go(1);
        x.hiccup(0, 3);
        x.aunt(2, true);
        x.see(1, 0, 5, true);
        x.see(1, 1, 5, true);
        x.strike(0);
        int[] due = {3, 2, 4, 4, 1, 93, -5, 2, 6, 1, 2, 3, 3, 2};
        for (int what = 0; what < due.length; what++) {
            Check.due("P45 count(" + what + ")", x.count(what), due[what]);
        }
        x.known(2);
        Check.due("P45 KNOWN by 2", x.count(12), 2);
        Check.due("P45 count(14)", x.count(14), -1);
        Check.due("P45 count(-1)", x.count(-1), -1);
    }
}
