import java.lang.management.ManagementFactory;
import java.lang.reflect.Constructor;
import java.lang.reflect.Field;
import java.lang.reflect.Method;
import java.lang.reflect.Modifier;
import java.nio.file.Files;
import java.nio.file.Path;
import java.util.ArrayList;
import java.util.List;
import java.util.Random;
import java.util.Set;
import java.util.TreeSet;
import java.util.regex.Matcher;
import java.util.regex.Pattern;

/** The rules of LANGUAGE.md that a look at the source, the class and its room can tell. */
public final class LanguageTest {
    private static final String SOURCE = "src/main/java/PlacingDesk.java";
    private static final Set<String> FACE = Set.of(
            "kind boolean (int,int,int,int,boolean)", "place int (int,int,int)",
            "late boolean (int,int)", "feeder boolean (int,int,int)",
            "machine boolean (int,int,int,int,int)", "ahead int (int,int)", "then int (int,boolean)",
            "clear void ()", "good int ()", "ticks int ()", "best int ()", "plan int (int)",
            "lay int ()", "miss boolean (int)", "again boolean (int)", "run int ()", "told int (int)",
            "state int (int)", "slot int (int,int)", "count int (int)");
    /** What the class uses of the library; LANGUAGE.md has more, and no constant such as MAX_VALUE. */
    private static final Set<String> LIBRARY =
            Set.of("Arrays.fill", "Integer.bitCount", "Math.abs", "Math.max", "Math.min");
    private static int wrong = 0;

    private static void check(String rule, boolean holds) {
        if (!holds) {
            wrong++;
            System.out.println("broken: " + rule);
        }
    }

    public static void main(String[] args) throws Exception {
        String source = Files.readString(Path.of(SOURCE));
        String code = source.replaceAll("(?s)/\\*.*?\\*/", " ").replaceAll("//[^\n]*", " ");
        checkWords(code);
        checkFace();
        for (Class<?> inner : PlacingDesk.class.getDeclaredClasses()) {
            checkInner(inner);
        }
        check("at most twelve classes", PlacingDesk.class.getDeclaredClasses().length < 12);
        checkLengths(code);
        checkRoom();
        checkAnyArguments();
        System.out.println(wrong == 0 ? "the rules that were looked at hold" : wrong + " are broken");
        if (wrong != 0) {
            System.exit(1);
        }
    }

    private static void checkWords(String code) {
        String banned = "\\b(throw|throws|try|catch|finally|synchronized|assert|package|volatile|native"
                + "|\\w+Exact|Object|Random|Thread|System\\.(?!arraycopy)\\w+|hashCode|toString)\\b"
                + "|->|::|@";
        Matcher matcher = Pattern.compile(banned).matcher(code);
        while (matcher.find()) {
            check("the word " + matcher.group(), false);
        }
        Matcher imports = Pattern.compile("import ([^;]+);").matcher(code);
        while (imports.find()) {
            check("import " + imports.group(1), imports.group(1).equals("java.util.Arrays"));
        }
        String unimported = code.replaceAll("import [^;]+;", "");
        Matcher uses = Pattern.compile("\\b[A-Z]\\w*[a-z]\\w*\\.\\w+").matcher(unimported);
        while (uses.find()) {
            check("the library's " + uses.group(), LIBRARY.contains(uses.group()));
        }
        check("signs 1 to 127", code.chars().allMatch(sign -> sign > 0 && sign < 128));
    }

    private static String signature(Method method) {
        List<String> types = new ArrayList<>();
        for (Class<?> type : method.getParameterTypes()) {
            types.add(type.getName());
        }
        return method.getName() + " " + method.getReturnType() + " (" + String.join(",", types) + ")";
    }

    private static void checkFace() throws Exception {
        check("public and final", Modifier.isPublic(PlacingDesk.class.getModifiers())
                && Modifier.isFinal(PlacingDesk.class.getModifiers()));
        Set<String> open = new TreeSet<>();
        for (Method method : PlacingDesk.class.getDeclaredMethods()) {
            if (!Modifier.isPrivate(method.getModifiers())) {
                open.add(signature(method));
                check("static " + method, !Modifier.isStatic(method.getModifiers()));
            }
        }
        check("the face's methods are " + open, open.equals(new TreeSet<>(FACE)));
        for (Field field : PlacingDesk.class.getDeclaredFields()) {
            check("open field " + field,
                    Modifier.isPrivate(field.getModifiers()) || field.getName().equals("NONE"));
        }
        check("NONE", PlacingDesk.NONE == -1);
        check("one constructor", PlacingDesk.class.getDeclaredConstructors().length == 1);
        check("public constructor",
                Modifier.isPublic(PlacingDesk.class.getConstructor().getModifiers()));
    }

    private static void checkInner(Class<?> inner) {
        check("static " + inner, Modifier.isStatic(inner.getModifiers()));
        int fields = 0;
        for (Field field : inner.getDeclaredFields()) {
            boolean isStatic = Modifier.isStatic(field.getModifiers());
            check("static and not final: " + field,
                    !isStatic || Modifier.isFinal(field.getModifiers()));
            fields += isStatic ? 0 : 1;
        }
        check("at most twenty fields in " + inner, fields <= 20);
        for (Method method : inner.getDeclaredMethods()) {
            String name = method.getName();
            check("the face's name " + method,
                    FACE.stream().noneMatch(face -> face.startsWith(name + " ")));
            check("seven parameters " + method, method.getParameterCount() <= 7);
        }
        for (Constructor<?> constructor : inner.getDeclaredConstructors()) {
            check("seven parameters " + constructor, constructor.getParameterCount() <= 7);
        }
    }

    /** A method of a nested class begins with eight blanks, one of the face with four. */
    private static void checkLengths(String code) {
        int begun = 0;
        String[] lines = code.split("\n");
        for (int i = 0; i < lines.length; i++) {
            if (lines[i].matches(" {4}( {4})?\\w.*\\) \\{")) {
                begun = i;
            }
            if (lines[i].matches(" {4}( {4})?\\}")) {
                check("sixty lines before line " + (i + 1), i - begun <= 60 || begun == 0);
                begun = i;
            }
        }
    }

    private static int workHard(PlacingDesk desk) {
        int sum = 0;
        for (int i = 0; i < 20; i++) {
            sum += desk.best() + desk.good() + desk.ticks() + desk.run() + desk.lay() + desk.count(4);
            sum += desk.told(3) + desk.state(0) + desk.slot(0, 1) + desk.plan(0);
            desk.clear();
            sum += desk.then(0, true);
        }
        return sum;
    }

    private static PlacingDesk sevenPlaces() {
        PlacingDesk desk = new PlacingDesk();
        desk.machine(4, 1, 1, 0, 0);
        for (int p = 0; p < 7; p++) {
            desk.place(20 * p, 30 + 7 * p % 40, p);
            desk.feeder(7 - p, p, 100);
        }
        return desk;
    }

    /** All rows are made in the constructor: no call makes an object. */
    private static void checkRoom() {
        com.sun.management.ThreadMXBean room =
                (com.sun.management.ThreadMXBean) ManagementFactory.getThreadMXBean();
        PlacingDesk desk = sevenPlaces();
        int sum = workHard(desk);
        room.getCurrentThreadAllocatedBytes();
        long before = room.getCurrentThreadAllocatedBytes();
        sum += workHard(desk);
        long used = room.getCurrentThreadAllocatedBytes() - before;
        check("calls made " + used + " bytes, sum " + sum, used < 2000);
        before = room.getCurrentThreadAllocatedBytes();
        sevenPlaces();
        used = room.getCurrentThreadAllocatedBytes() - before;
        check("a new desk takes " + used + " bytes", used < 10000);
    }

    private static final int[] EDGES = {Integer.MIN_VALUE, -1000, -2, -1, 0, 0, 1, 1, 2, 2, 3, 4, 5, 6, 7,
        8, 9, 10, 16, 20, 31, 32, 50, 100, 199, 200, 201, Integer.MAX_VALUE};

    private static int anyCall(PlacingDesk desk, Random random) {
        int[] a = new int[5];
        for (int i = 0; i < a.length; i++) {
            a[i] = random.nextInt(4) == 0 ? random.nextInt(200) : EDGES[random.nextInt(EDGES.length)];
        }
        boolean flag = random.nextBoolean();
        switch (random.nextInt(20)) {
            case 0: return desk.kind(a[0], a[1], a[2], a[3], flag) ? 1 : 0;
            case 1: return desk.place(a[0], a[1], a[2]);
            case 2: return desk.late(a[0], a[1]) ? 1 : 0;
            case 3: return desk.feeder(a[0], a[1], a[2]) ? 1 : 0;
            case 4: return desk.machine(a[0], a[1], a[2], a[3], a[4]) ? 1 : 0;
            case 5: return desk.ahead(a[0], a[1]);
            case 6: return desk.then(a[0], flag);
            case 7: return desk.good();
            case 8: return desk.ticks();
            case 9: return desk.best();
            case 10: return desk.plan(a[0]);
            case 11: return desk.lay();
            case 12: return desk.miss(a[0]) ? 1 : 0;
            case 13: return desk.again(a[0]) ? 1 : 0;
            case 14: return desk.run();
            case 15: return desk.told(a[0]);
            case 16: return desk.state(a[0]);
            case 17: return desk.slot(a[0], a[1]);
            case 18: return desk.count(a[0]);
            default: desk.clear();
        }
        return 0;
    }

    /** No call throws or fails to end, for any arguments in any state; none answers below NONE. */
    private static void checkAnyArguments() {
        for (int seed = 1; seed <= 2000; seed++) {
            Random random = new Random(seed);
            PlacingDesk desk = new PlacingDesk();
            for (int call = 1; call <= 512; call++) {
                int answer = anyCall(desk, random);
                check("seed " + seed + ", call " + call + " answers " + answer,
                        answer >= PlacingDesk.NONE);
            }
        }
    }
}
