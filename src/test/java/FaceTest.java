import java.io.IOException;
import java.lang.management.ManagementFactory;
import java.lang.reflect.Field;
import java.lang.reflect.Method;
import java.lang.reflect.Modifier;
import java.nio.file.Files;
import java.nio.file.Path;
import java.util.Arrays;
import java.util.TreeSet;
import java.util.regex.Matcher;
import java.util.regex.Pattern;

/** The public face as the document prints it, what LANGUAGE.md forbids by a word, and what calls allocate. */
final class FaceTest {
    private static final Path DOCUMENT = Path.of("../shared/DOC.md");
    private static final Path SOURCE = Path.of("src/main/java/BeatParish.java");

    private FaceTest() {
    }

    public static void main(String[] args) throws IOException {
        face();
        hidden();
        language();
        allocation();
        Check.end();
    }

    private static void face() throws IOException {
        Matcher block = Pattern.compile("```java\n(.*?)```", Pattern.DOTALL).matcher(Files.readString(DOCUMENT));
        Check.due("a code block", block.find(), true);
        TreeSet<String> due = new TreeSet<>();
        for (String line : block.group(1).split("\n")) {
            if (line.matches("    public .*\\(.*;") && !line.contains("BeatParish(")) {
                due.add(line.trim().replaceAll("(int|long|boolean) [a-zA-Z]+([,)])", "$1$2"));
            }
        }
        TreeSet<String> got = new TreeSet<>();
        for (Method method : BeatParish.class.getDeclaredMethods()) {
            if (Modifier.isPublic(method.getModifiers())) {
                got.add(text(method));
            }
        }
        Check.due("45 promises less the constructor", due.size(), 44);
        for (String one : due) {
            Check.due("the face has " + one, got.contains(one), true);
        }
        Check.due("the face has no more", got.size(), due.size());
        Check.due("NONE", BeatParish.NONE, -1);
        Check.due("public and final", BeatParish.class.getModifiers(), Modifier.PUBLIC | Modifier.FINAL);
        Check.due("one constructor", BeatParish.class.getDeclaredConstructors().length, 1);
        Check.due("it is public", BeatParish.class.getConstructors().length, 1);
    }

    private static String text(Method method) {
        StringBuilder text = new StringBuilder("public " + method.getReturnType() + " " + method.getName() + "(");
        String between = "";
        for (Class<?> type : method.getParameterTypes()) {
            text.append(between).append(type);
            between = ", ";
        }
        text.append(")");
        between = " throws ";
        for (Class<?> type : method.getExceptionTypes()) {
            text.append(between).append(type.getSimpleName());
            between = ", ";
        }
        return text.append(";").toString();
    }

    private static void hidden() {
        TreeSet<String> face = new TreeSet<>();
        for (Method method : BeatParish.class.getDeclaredMethods()) {
            if (Modifier.isPublic(method.getModifiers())) {
                face.add(method.getName());
            }
        }
        hiddenIn(BeatParish.class, face);
        for (Class<?> inside : BeatParish.class.getDeclaredClasses()) {
            Check.due(inside + " is static", Modifier.isStatic(inside.getModifiers()), true);
            Check.due(inside + " isn't public", Modifier.isPublic(inside.getModifiers()), false);
            Check.due(inside + " has some twenty fields", instanceFields(inside) <= 21, true);
            hiddenIn(inside, face);
        }
        Check.due("some twelve classes", BeatParish.class.getDeclaredClasses().length <= 11, true);
        Check.due("some twenty fields", instanceFields(BeatParish.class) <= 20, true);
    }

    private static void hiddenIn(Class<?> type, TreeSet<String> face) {
        for (Method method : type.getDeclaredMethods()) {
            boolean open = Modifier.isPublic(method.getModifiers());
            Check.due(method + " is private or of the face", open == (type == BeatParish.class && face.contains(method.getName())),
                true);
            Check.due(method + " bears no name of the face", !open && face.contains(method.getName()), false);
            Check.due(method + " takes at most seven", method.getParameterCount() <= 7, true);
            if (type == BeatParish.class && !open) {
                Check.due(method + " is private", Modifier.isPrivate(method.getModifiers()), true);
            }
        }
        for (Field field : type.getDeclaredFields()) {
            boolean isPrivate = Modifier.isPrivate(field.getModifiers());
            Check.due(field + " is private but for NONE", isPrivate || field.getName().equals("NONE"), true);
            if (Modifier.isStatic(field.getModifiers())) {
                Check.due(field + " is final", Modifier.isFinal(field.getModifiers()), true);
            }
        }
    }

    private static int instanceFields(Class<?> type) {
        int fields = 0;
        for (Field field : type.getDeclaredFields()) {
            fields += Modifier.isStatic(field.getModifiers()) ? 0 : 1;
        }
        return fields;
    }

    private static void language() throws IOException {
        String source = Files.readString(SOURCE);
        String code = source.replaceAll("/\\*\\*.*?\\*/", "").replaceAll("//.*", "").replaceAll("\"[^\"]*\"", "\"\"");
        String[] never = {"->", "::", "Exact\\(", "\\bfinally\\b", "\\bsynchronized\\b", "\\bassert\\b", "\\bcatch\\b",
            "\\btry\\b", "\\bvar\\b", "\\bpackage\\b", "static \\{", "\\bSystem\\.", "\\bArrays\\.", "\"\" *\\+", "\\+ *\"\"",
            "\\binstanceof\\b", "\\bdouble\\b", "\\bfloat\\b", "\\bRandom\\b", "\\bThread\\b"};
        for (String word : never) {
            Check.due("never " + word, Pattern.compile(word).matcher(code).find(), false);
        }
        Check.due("one import", code.split("\\bimport\\b", -1).length - 1, 1);
        Check.due("two throws of man", code.split("throw new", -1).length - 1, 2);
        methods(source);
    }

    private static void methods(String source) {
        int from = 0;
        String[] lines = source.split("\n");
        for (int i = 0; i < lines.length; i++) {
            boolean opens = lines[i].matches(" {4,8}[^ /*}].*\\) (throws .*)?\\{");
            if (opens) {
                from = i;
            }
            if (lines[i].matches(" {4,8}}") && from > 0) {
                Check.due("a short method, line " + from, i - from <= 60, true);
                from = 0;
            }
        }
        Check.due("letters 1 to 127", source.chars().allMatch(c -> c > 0 && c < 128), true);
    }

    /** The room is for all calls of a run: none may leave something behind. */
    private static void allocation() {
        com.sun.management.ThreadMXBean threads = (com.sun.management.ThreadMXBean) ManagementFactory.getThreadMXBean();
        long id = Thread.currentThread().getId();
        int sum = manyCalls(parish());
        BeatParish x = parish();
        long before = threads.getThreadAllocatedBytes(id);
        int again = manyCalls(x);
        long bytes = threads.getThreadAllocatedBytes(id) - before;
        Check.due("the same calls give the same answers", again, sum);
        Check.due("bytes that 500 calls leave behind: " + bytes, bytes < 4096, true);
        before = threads.getThreadAllocatedBytes(id);
        new BeatParish();
        bytes = threads.getThreadAllocatedBytes(id) - before;
        Check.due("bytes of a new object: " + bytes, bytes < 40000, true);
    }

    private static BeatParish parish() {
        return Check.parish("man a 60 20;man b 45 70;man c 10 0;tie a b;tie b c;work p a 999 4 0;work q b 990 3 1;"
            + "work r c 300 6 0;speed 5;speed 7;spring 999;wasp 40;law slip not (beat - fast * aged / 3 < left or bar > coil);"
            + "law wear hour / 100;law hush 3;");
    }

    private static int manyCalls(BeatParish x) {
        int sum = 0;
        int[] ones = {1, 2, 3, 4};
        for (int k = 0; k < 10; k++) {
            sum += x.go(1) + (x.hiccup(k % 3, k) ? 1 : 0) + x.ahead(200, 0, 0) + x.done(0) + x.stops() + x.pace(60, 1);
            sum += x.bars(7) + x.meet(998, k, 999, 3) + x.cut(0, 2) + x.crowd(200) + x.off(0, 200, 0) + x.rests(0, 1);
            sum += x.rest(0, 1, 0) + x.reaches(0) + x.slowest() + x.pack(999) + x.canon(0, 1) + x.strange(1, 1);
            sum += x.firstSlip(200, 0) + x.goOn() + x.startBy(0, 99) + x.idle() + x.see(40, 0, 9, true) + x.strike(k);
            sum += x.shifts() + x.chance(k, 99, 0) + x.tried(1, 0, 99) + x.undo() + x.keep() + x.back() + (int) x.law(0, 0);
            sum += x.man(0, 2) + x.work(0, 4) + x.tie(0, 1) + x.beat() + x.count(7) + x.named(0, 1 << 25);
            sum += x.feed(0x6d616e20, 0x61203120, 0x313b6c61, 0x77207765, 0x61722028) + (x.known(-1) ? 1 : 0);
            sum += x.text(20) + x.fault(0) + x.fault(1) + Arrays.hashCode(ones) + (x.aunt(2, true) ? 1 : 0) + x.wind(1);
        }
        return sum;
    }
}
