import java.lang.reflect.InvocationTargetException;
import java.lang.reflect.Method;
import java.util.ArrayList;
import java.util.HashMap;
import java.util.List;
import java.util.Map;
import java.util.NoSuchElementException;

/** Every call in every kind of parish (COIL 0, all DONE, nobody HERE, as many as may be ..), against the second program. */
final class StatesTest {
    // an object is used for 512 calls at most, those by which the parish becomes so among them
    private static final int ASKED = 300;
    private static final String SMALL = "man a 60 20;man b 45 70;man c 10 0;tie a b;tie b c;work p a 400 4 0;work q b 300 3 1;"
        + "work r c 90 6 0;speed 40;speed 75;spring 90;wasp 30;seed 7;";
    private static final String LAWS = "law slip left / 100 + (beat > fast) * 2;law wear 1 + fast + aged + hour / 40;"
        + "law hush coil / 30 + aged / 50;";
    // as many as may be of each kind, 64 KNOTS
    private static final String FULL = "man a 5 99;man b 1 0;man c 199 50;man d 80 20;man e 40 1;man f 60 19;tie a b;tie b c;"
        + "tie c d;tie d e;tie e f;tie a f;tie a d;tie b e;tie c f;work p a 999 12 0;work q b 999 1 9;work r c 1 5 0;"
        + "work s d 700 7 3;work t e 640 8 2;work u f 80 9 0;work v a 90 11 1;work w d 999 10 30;speed 1;speed 99;speed 30;"
        + "speed 45;speed 60;speed 20;speed 9;speed 80;spring 999;wasp 50;seed 99999;law slip (beat-fast)/10*(beat>fast)+"
        + "(left>500 and bar<>7 or hour<3)*2-(coil<900)+((((((((1))))))))*0;law wear 2+(hour/9*2>=coil)*3-(beat=40)-0-0-0;"
        + "law hush not beat or (1+aged/30)*1*1;";
    private static final String[] CHANGES = {"shift 5", "shift -99", "shift 99", "shift 0", "shift 100", "wind 1", "wind 99",
        "wind 999", "wind 0", "hiccup 0 3", "hiccup 1 9", "hiccup 0 0", "hiccup 2 10", "hiccup 6 1", "aunt 0 true", "aunt 0 false",
        "aunt 1 true", "aunt 1 false", "aunt 6 true", "go 0", "go 1", "go 9", "go 99", "go 100", "go -1", "see 1 0 5 true",
        "see 40 1 300 false", "see 41 0 0 true", "see 3 9 0 true", "strike 0", "strike 3", "strike 24", "known 0", "known -1",
        "known 3", "known 25", "undo", "keep", "back", "text 0", "text 1", "text 701", "feed 1 2 3 4 5"};

    private final String name;
    private final String text;
    private final String[] lived;
    private String[] claims = {};

    private StatesTest(String name, String text, String... lived) {
        this.name = name;
        this.text = text;
        this.lived = lived;
    }

    public static void main(String[] args) {
        List<String> asks = asks();
        List<String> brief = brief();
        for (StatesTest one : all()) {
            one.parish().claim(one.claims);
            for (int from = 0; from < asks.size(); from += ASKED) {
                one.parish().ask(asks.subList(from, Math.min(asks.size(), from + ASKED)));
            }
            for (String change : CHANGES) {
                one.parish().ask(List.of(change)).ask(brief);
                one.parish().ask(List.of(change, "go 2", "shifts")).ask(brief);
                one.parish().ask(List.of(change, "undo", "undo")).ask(brief);
                one.parish().ask(List.of(change, "back", "known -1", "shifts")).ask(brief);
                one.parish().ask(List.of(change, "feed 1 2 3 4 5", "text 40", "text 20", "fault 0", "fault 1", "count 11"));
            }
        }
        Check.end();
    }

    /** What its name says: calls with their answers. */
    private StatesTest is(String... claimed) {
        claims = claimed;
        return this;
    }

    private static List<StatesTest> all() {
        List<StatesTest> all = new ArrayList<>();
        byText(all);
        bySpring(all);
        byPeople(all);
        byBeat(all);
        byCalls(all);
        return all;
    }

    private static void byText(List<StatesTest> all) {
        all.add(new StatesTest("nothing told", ""));
        all.add(new StatesTest("no WORKS", "man a 9 9;man b 5 5;tie a b;speed 3;", "hiccup 0 4", "go 1")
            .is("count 2=0", "count 0=2"));
        all.add(new StatesTest("one of each", SMALL));
        all.add(new StatesTest("one of each by laws", SMALL + LAWS, "go 3"));
        all.add(new StatesTest("as many as may be", FULL)
            .is("count 0=6", "count 1=9", "count 2=8", "count 3=64", "count 10=6"));
        all.add(new StatesTest("as many as may be, going on", FULL, "go 7", "hiccup 3 9", "go 1", "aunt 4 true", "shift 20")
            .is("count 10=5", "count 9=3", "man 4 4=0", "count 6=20"));
    }

    private static void bySpring(List<StatesTest> all) {
        all.add(new StatesTest("COIL 0 from the TEXT on", SMALL.replace("spring 90", "spring 0") + LAWS, "shift 9", "hiccup 1 2")
            .is("count 5=0", "beat=0", "count 4=0"));
        all.add(new StatesTest("COIL 0 by HOURS", SMALL.replace("spring 90", "spring 3"), "shift 50", "go 5")
            .is("count 5=0", "beat=0", "count 7=1"));
        all.add(new StatesTest("COIL 0, all DONE", SMALL.replace("spring 90", "spring 15"), "shift 30", "go 20")
            .is("count 5=0", "count 7=3"));
        all.add(new StatesTest("COIL 999", SMALL.replace("spring 90", "spring 999") + "law wear 0;", "go 2")
            .is("count 5=999", "count 4=2"));
        all.add(hours("HOUR 9850", SMALL.replace("spring 90", "spring 999"), 9850).is("count 4=9850", "count 5=99"));
        all.add(hours("HOUR 9900", SMALL, 9900).is("count 4=9900", "go 1=-1", "go 0=9900"));
    }

    private static void byPeople(List<StatesTest> all) {
        all.add(new StatesTest("all DONE", SMALL, "shift 40", "go 15", "keep", "hiccup 1 3").is("count 7=3", "count 5=75"));
        all.add(new StatesTest("one DONE", SMALL, "go 4", "shift 7").is("count 7=1", "work 2 5=1"));
        all.add(new StatesTest("nobody HERE", SMALL + LAWS, "go 1", "aunt 0 true", "aunt 1 true", "aunt 2 true", "shift 4")
            .is("count 10=0", "count 0=3", "count 7=0"));
        all.add(new StatesTest("nobody HERE, all DONE", SMALL, "go 30", "aunt 0 true", "aunt 1 true", "aunt 2 true")
            .is("count 10=0", "count 7=3"));
        all.add(new StatesTest("HICCUPS of all", FULL, "hiccup 0 9", "hiccup 1 1", "hiccup 2 2", "hiccup 3 5", "hiccup 4 1",
            "hiccup 5 3").is("count 9=6"));
        String later = SMALL.replace(" 0;work", " 99;work").replace("3 1;", "3 98;").replace("6 0;", "6 50;");
        all.add(new StatesTest("not begun", later,
            "shift 1", "go 2").is("goOn=0", "count 7=0", "work 1 3=98"));
    }

    private static void byBeat(List<StatesTest> all) {
        all.add(new StatesTest("SHIFT 99", FULL, "shift 99", "go 1").is("count 6=99"));
        all.add(new StatesTest("SHIFT -99", FULL, "go 2", "shift -99").is("count 6=-99", "beat=1"));
        all.add(new StatesTest("BEAT 199", SMALL.replace("speed 40;speed 75;", "speed 199;") + LAWS, "shift 50", "hiccup 2 1")
            .is("beat=199"));
        all.add(new StatesTest("wasp 100", FULL.replace("wasp 50", "wasp 100"), "hiccup 2 1", "go 2", "shift 3"));
        all.add(new StatesTest("wasp 49", FULL.replace("wasp 50", "wasp 49"), "hiccup 2 2", "go 2", "shift -3", "aunt 2 true"));
        all.add(new StatesTest("wasp 0", FULL.replace("wasp 50", "wasp 0"), "go 9", "shift -3", "aunt 2 true", "aunt 2 false"));
    }

    private static void byCalls(List<StatesTest> all) {
        all.add(seen("24 SEEN", "known 20").is("count 11=24", "count 12=20", "shifts=30"));
        all.add(seen("24 SEEN, none KNOWN", "known 0").is("count 11=24", "count 12=0", "shifts=1023"));
        all.add(seen("24 SEEN, all KNOWN").is("count 11=24", "count 12=24", "shifts=1022"));
        all.add(deeds("20 deeds", 20).is("count 13=20"));
        all.add(deeds("21 deeds", 21).is("count 13=20"));
        all.add(new StatesTest("an IMAGE", SMALL + LAWS, "shift 5", "go 3", "hiccup 0 2", "keep", "go 2", "shift 9",
            "see 3 0 200 true").is("count 4=5", "count 11=1"));
        all.add(new StatesTest("behind back", FULL, "shift 5", "go 3", "hiccup 0 2", "keep", "go 9", "shift 9", "aunt 5 true",
            "back").is("count 4=3", "count 13=0"));
        all.add(new StatesTest("behind undo", SMALL + LAWS, "hiccup 0 2", "shift 5", "aunt 0 true", "undo", "wind 5", "undo"));
        all.add(new StatesTest("behind a FAULT", SMALL + LAWS, "go 2", "hiccup 1 3", "keep", "wind 4", "text man z 9 9;work 8",
            "tape speed 8;").is("fault 0=1", "fault 1=15", "count 13=2"));
        all.add(new StatesTest("behind another TEXT", FULL, "go 9", "keep", "see 5 3 8 true", "known 1", "wind 1",
            "text " + SMALL + LAWS, "shift 9").is("count 0=3", "count 3=25", "fault 0=0"));
    }

    private static StatesTest hours(String name, String text, int hours) {
        List<String> lived = new ArrayList<>();
        for (int left = hours; left > 0; left -= 99) {
            lived.add("go " + Math.min(99, left));
        }
        lived.add("wind 99");
        lived.add("shift 6");
        return new StatesTest(name, text, lived.toArray(new String[0]));
    }

    /** 24 SEEN: by 0 .. 5 and 6 .. 11 what is struck, and what a STRIKE that is STRUCK leaves. */
    private static StatesTest seen(String name, String... behind) {
        List<String> lived = new ArrayList<>(List.of("see 1 0 340 true", "see 2 0 280 false", "see 3 0 100 false",
            "see 4 0 150 true", "strike 2", "strike 3", "see 5 0 61 true", "see 2 0 0 true", "see 6 0 0 false", "strike 8",
            "strike 5", "strike 10", "see 1 1 300 true", "see 2 2 10 false", "strike 1", "strike 14", "see 40 2 0 true",
            "see 40 2 1 false", "see 3 1 999 false", "see 3 1 0 true", "strike 6", "see 4 0 134 true", "strike 21", "strike 0",
            "go 1", "shift -9"));
        lived.addAll(List.of(behind));
        return new StatesTest(name, SMALL, lived.toArray(new String[0]));
    }

    private static StatesTest deeds(String name, int many) {
        String[] lived = new String[many + 1];
        lived[0] = "go 2";
        for (int k = 0; k < many; k++) {
            String[] kinds = {"shift " + (k + 1), "wind " + (k + 1), "hiccup 0 " + k % 9, "aunt 1 " + (k % 10 < 5),
                "hiccup 2 " + k % 7};
            lived[k + 1] = kinds[k % 5];
        }
        return new StatesTest(name, SMALL + LAWS, lived);
    }

    /** A parish of this kind, twice. */
    private Pair parish() {
        Pair pair = new Pair(name);
        pair.tell(text);
        Check.due(name + " holds", pair.x.fault(0), 0);
        for (String call : lived) {
            if (call.startsWith("text ") && call.contains(";")) {
                pair.tell(call.substring(5));
            } else if (call.startsWith("tape ")) {
                pair.feed(call.substring(5));
            } else {
                pair.ask(List.of(call));
            }
        }
        return pair;
    }

    /** The program and the second one, which have had the same calls. */
    private static final class Pair {
        private static final Map<String, Method> FIRSTS = methods(BeatParish.class);
        private static final Map<String, Method> SECONDS = methods(Second.class);

        private final String name;
        private final List<String> calls = new ArrayList<>();
        private final BeatParish x = new BeatParish();
        private final Second y = new Second();

        Pair(String name) {
            this.name = name;
        }

        private static Map<String, Method> methods(Class<?> of) {
            Map<String, Method> methods = new HashMap<>();
            for (Method method : of.getDeclaredMethods()) {
                method.setAccessible(true);
                if (!method.getName().equals("man") || method.getParameterCount() == 2) {
                    methods.put(method.getName(), method);
                }
            }
            return methods;
        }

        Pair ask(List<String> asked) {
            for (String call : asked) {
                calls.add(call);
                long got = answer(x, FIRSTS, call);
                long due = answer(y, SECONDS, call);
                // there are many calls, and the words are for those that are wrong
                Check.due(got == due ? name : name + ", .. " + calls.subList(Math.max(0, calls.size() - 9), calls.size()), got, due);
            }
            return this;
        }

        void claim(String[] claims) {
            for (String claim : claims) {
                String[] both = claim.split("=");
                Check.due(name + ", " + both[0], answer(x, FIRSTS, both[0]), Long.parseLong(both[1]));
            }
        }

        void tell(String text) {
            feed(text);
            ask(List.of("text " + text.length()));
        }

        void feed(String text) {
            for (int from = 0; from < text.length(); from += 20) {
                int[] five = new int[5];
                for (int i = 0; i < 20; i++) {
                    five[i / 4] = five[i / 4] << 8 | (from + i < text.length() ? text.charAt(from + i) : ' ');
                }
                Check.due(name + ", feed", x.feed(five[0], five[1], five[2], five[3], five[4]), y.feed(five));
            }
        }

        private static long answer(Object of, Map<String, Method> methods, String call) {
            String[] words = call.split(" ");
            Method method = methods.get(words[0]);
            Object[] with = new Object[words.length - 1];
            for (int i = 0; i < with.length; i++) {
                boolean truth = words[i + 1].equals("true") || words[i + 1].equals("false");
                with[i] = truth ? (Object) Boolean.valueOf(words[i + 1]) : (Object) Integer.valueOf(words[i + 1]);
            }
            if (method.isVarArgs()) {
                int[] row = new int[with.length];
                for (int i = 0; i < row.length; i++) {
                    row[i] = (Integer) with[i];
                }
                with = new Object[] {row};
            }
            try {
                Object answer = method.invoke(of, with);
                return answer instanceof Boolean is ? (is ? 1 : 0) : ((Number) answer).longValue();
            } catch (InvocationTargetException e) {
                return e.getCause() instanceof IndexOutOfBoundsException ? Second.NO_PERSON
                    : e.getCause() instanceof NoSuchElementException ? Second.NO_WHAT : -999;
            } catch (IllegalAccessException e) {
                throw new IllegalStateException(e);
            }
        }
    }

    // ---- what is asked

    private static int[] row(int... row) {
        return row;
    }

    private static int[] to(int least, int most) {
        int[] row = new int[most - least + 1];
        for (int i = 0; i < row.length; i++) {
            row[i] = least + i;
        }
        return row;
    }

    /** A call with each of several numbers at each place. */
    private static void add(List<String> asks, String call, int[]... numbers) {
        if (numbers.length == 0) {
            asks.add(call);
            return;
        }
        int[][] rest = java.util.Arrays.copyOfRange(numbers, 1, numbers.length);
        for (int number : numbers[0]) {
            add(asks, call + " " + number, rest);
        }
    }

    /** What calls and HOURS change, and a little of what comes. */
    private static List<String> brief() {
        List<String> asks = new ArrayList<>();
        add(asks, "count", to(0, 13));
        add(asks, "fault", to(0, 1));
        add(asks, "man", to(0, 5), to(2, 5));
        add(asks, "work", to(0, 7), to(4, 5));
        add(asks, "ahead", row(1), row(1), to(0, 5));
        add(asks, "ahead", row(40), row(0), to(0, 7));
        for (String call : new String[] {"beat", "stops", "slowest", "goOn", "idle", "crowd 9", "tried 0 0 9", "chance 3 5 0"}) {
            asks.add(call);
        }
        return asks;
    }

    private static List<String> asks() {
        List<String> asks = new ArrayList<>();
        int[] people = to(-1, 6);
        int[] works = to(-1, 8);
        for (String call : new String[] {"beat", "stops", "slowest", "goOn", "idle", "shifts"}) {
            asks.add(call);
        }
        add(asks, "fault", to(-1, 2));
        add(asks, "named", to(0, 2), row(0, Check.letters("a"), Check.letters("f"), Check.letters("p"), Check.letters("w"),
            Check.letters("ab")));
        add(asks, "man", people, to(-1, 6));
        add(asks, "work", works, to(-1, 6));
        add(asks, "tie", people, people);
        add(asks, "law", to(-1, 3), works);
        add(asks, "done", works);
        add(asks, "bars", row(-1, 0, 1, 2, 4, 6, 7, 8, 127, 128, 170, 255, 256));
        add(asks, "meet", row(4, 7), row(0, 12), row(6, 9), row(1, 30));
        add(asks, "cut", people, people);
        add(asks, "rests", people, people);
        add(asks, "rest", to(0, 5), to(0, 5), to(-1, 2));
        add(asks, "reaches", people);
        add(asks, "pack", row(0, 1, 90, 100, 400, 500, 700, 999, 1000, 1999, 3000, 9999, 10000));
        add(asks, "canon", works, works);
        add(asks, "strange", row(-1, 0, 1, 5, 20, 60, 9999, 10000), to(-1, 2));
        add(asks, "count", to(-1, 14));
        future(asks, people, works);
        return asks;
    }

    private static void future(List<String> asks, int[] people, int[] works) {
        add(asks, "ahead", row(-1, 0, 1, 2, 7, 30, 200, 201), row(0), works);
        add(asks, "ahead", row(0, 1, 2, 7, 30, 200), row(1), people);
        add(asks, "ahead", row(0, 1, 2, 7, 30, 200), row(2, 3, 4), row(0, 99));
        add(asks, "pace", row(0, 1, 9, 61), to(-1, 3));
        add(asks, "pace", row(60), row(0));
        add(asks, "crowd", row(-1, 0, 1, 2, 5, 12, 40, 200, 201));
        add(asks, "off", people, row(1, 2, 9, 200), to(0, 1));
        add(asks, "off", row(0), row(0, 201), to(0, 2));
        add(asks, "firstSlip", row(0, 1, 2, 3, 9, 200, 201), to(-1, 2));
        add(asks, "startBy", works, row(0, 1, 2, 5, 14, 100));
        add(asks, "startBy", row(0, 7), row(40));
        add(asks, "startBy", row(1), row(99));
        add(asks, "chance", row(-1, 0, 2147483647), row(0, 1, 5, 20, 100), row(-1, 0, 1, 7));
        add(asks, "chance", row(65536), row(99), row(0, 3));
        add(asks, "tried", row(-1, 0, 1, 3, 4, 5), row(0), row(-1, 0, 1, 2, 9, 40, 99, 100));
        add(asks, "tried", row(2), people, row(0, 1, 2, 9, 99));
        add(asks, "tried", row(0, 1, 3), row(1), row(5));
    }
}
