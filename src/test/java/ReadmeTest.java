import java.lang.reflect.Method;
import java.lang.reflect.Modifier;
import java.nio.file.Files;
import java.nio.file.Path;
import java.util.ArrayList;
import java.util.List;
import java.util.regex.Matcher;
import java.util.regex.Pattern;

/** README.md names each call of the face, and its examples answer what is written behind them. */
public final class ReadmeTest {
    private static final Pattern BLOCK = Pattern.compile("(?s)```java\n(.*?)```");
    private static final Pattern CALL =
            Pattern.compile("desk\\.(\\w+)\\(([^)]*)\\);\\s*// (true|false|-?\\d+)(:.*)?");
    private static final String NEW_DESK = "PlacingDesk desk = new PlacingDesk();";
    private static int wrong = 0;

    private static void tell(String what) {
        wrong++;
        System.out.println(what);
    }

    public static void main(String[] args) throws Exception {
        String readme = Files.readString(Path.of("README.md"));
        for (Method method : PlacingDesk.class.getDeclaredMethods()) {
            if (Modifier.isPublic(method.getModifiers())) {
                checkIsNamed(readme, method);
            }
        }
        List<String> called = new ArrayList<>();
        Matcher blocks = BLOCK.matcher(readme);
        while (blocks.find()) {
            checkBlock(blocks.group(1), called);
        }
        for (Method method : PlacingDesk.class.getDeclaredMethods()) {
            if (Modifier.isPublic(method.getModifiers()) && method.getReturnType() != void.class
                    && !called.contains(method.getName())) {
                tell("no example of " + method.getName());
            }
        }
        System.out.println(called.size() + " examples, " + wrong + " wrong");
        if (wrong != 0) {
            System.exit(1);
        }
    }

    /** As a row of a table, with its type and those of what it takes. */
    private static void checkIsNamed(String readme, Method method) {
        StringBuilder row = new StringBuilder("(?m)^\\| `" + method.getReturnType() + " "
                + method.getName() + "\\(");
        for (int i = 0; i < method.getParameterCount(); i++) {
            row.append(i == 0 ? "" : ", ").append(method.getParameterTypes()[i]).append(" \\w+");
        }
        row.append("\\)` \\| \\S.* \\| \\S.* \\|$");
        if (!Pattern.compile(row.toString()).matcher(readme).find()) {
            tell("README.md has no row for " + method);
        }
    }

    private static void checkBlock(String block, List<String> called) throws Exception {
        PlacingDesk desk = null;
        for (String line : block.split("\n")) {
            Matcher call = CALL.matcher(line.trim());
            if (line.trim().equals(NEW_DESK)) {
                desk = new PlacingDesk();
            } else if (desk == null || !call.matches()) {
                tell("no call with its answer: " + line);
            } else {
                checkCall(desk, call);
                called.add(call.group(1));
            }
        }
    }

    private static void checkCall(PlacingDesk desk, Matcher call) throws Exception {
        String[] words = call.group(2).isEmpty() ? new String[0] : call.group(2).split(", ");
        Object answer = methodNamed(call.group(1)).invoke(desk, valuesOf(words));
        if (!String.valueOf(answer).equals(call.group(3))) {
            tell(call.group() + " answered " + answer);
        }
    }

    private static Method methodNamed(String name) {
        for (Method method : PlacingDesk.class.getMethods()) {
            if (method.getName().equals(name)) {
                return method;
            }
        }
        throw new IllegalArgumentException("no call " + name);
    }

    private static Object[] valuesOf(String[] words) {
        Object[] values = new Object[words.length];
        for (int i = 0; i < words.length; i++) {
            boolean isFlag = words[i].equals("true") || words[i].equals("false");
            values[i] = isFlag ? (Object) Boolean.valueOf(words[i]) : Integer.valueOf(words[i]);
        }
        return values;
    }
}
