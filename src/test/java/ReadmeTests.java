import java.lang.reflect.Method;
import java.nio.file.Files;
import java.nio.file.Path;
import java.util.ArrayList;
import java.util.List;
import java.util.regex.Matcher;
import java.util.regex.Pattern;

/** What README.md shows is what the class answers, and it tells each call and each refusal. */
public final class ReadmeTests {
    private static final Pattern BLOCK = Pattern.compile("(?s)```java\n(.*?)```");
    private static final Pattern TOLD = Pattern.compile("tell\\(x, \"(\\w*)\"\\);");
    private static final Pattern CALL = Pattern.compile("x\\.(\\w+)\\(([^)]*)\\); +// (-?\\d+|[A-Z]+)\\b.*");
    private static final Pattern FACE = Pattern.compile("public (?:int|long) (\\w+)\\(([^)]*)\\) \\{");
    private static final int CALLS = 30, LEAST_SHOWN = 50;
    private static int wrong;
    private static int shown;

    private static PoundBeasts x;

    public static void main(String[] args) throws Exception {
        String readme = Files.readString(Path.of("README.md"));
        Matcher block = BLOCK.matcher(readme);
        while (block.find()) {
            if (!block.group(1).startsWith("static void tell")) {
                block.group(1).lines().forEach(ReadmeTests::follow);
            }
        }
        due("answers shown", shown >= LEAST_SHOWN, true);
        tellsEachCall(readme);
        tellsEachRefusal(readme);
        System.out.println(wrong == 0 ? "the page shows what the class answers" : wrong + " things are not as shown");
        if (wrong != 0) {
            System.exit(1);
        }
    }

    private static void due(String what, Object got, Object want) {
        if (!got.equals(want)) {
            wrong++;
            System.out.println(what + ": " + got + ", due is " + want);
        }
    }

    private static void follow(String line) {
        Matcher told = TOLD.matcher(line);
        Matcher call = CALL.matcher(line);
        if (line.equals("PoundBeasts x = new PoundBeasts();")) {
            x = new PoundBeasts();
        } else if (told.matches()) {
            told.group(1).chars().forEach(letter -> x.write(letter));
        } else if (call.matches()) {
            shown++;
            due(line, answer(call.group(1), call.group(2)), number(call.group(3)));
        } else {
            due("a line", line, "a call with its answer");
        }
    }

    private static long number(String shown) {
        try {
            return Character.isLetter(shown.charAt(0))
                    ? PoundBeasts.class.getField(shown).getInt(null) : Long.parseLong(shown);
        } catch (ReflectiveOperationException noSuchConstant) {
            return Long.MIN_VALUE;
        }
    }

    private static long answer(String name, String arguments) {
        String[] told = arguments.isEmpty() ? new String[0] : arguments.split(", ");
        for (Method method : PoundBeasts.class.getMethods()) {
            if (method.getName().equals(name) && method.getParameterCount() == told.length) {
                return answer(method, told);
            }
        }
        return Long.MIN_VALUE;
    }

    private static long answer(Method method, String[] told) {
        Object[] arguments = new Object[told.length];
        for (int i = 0; i < told.length; i++) {
            Class<?> type = method.getParameterTypes()[i];
            if (type == boolean.class) {
                arguments[i] = Boolean.valueOf(told[i]);
            } else if (type == long.class) {
                arguments[i] = Long.valueOf(told[i]);
            } else {
                arguments[i] = Integer.valueOf(told[i]);
            }
        }
        try {
            return ((Number) method.invoke(x, arguments)).longValue();
        } catch (ReflectiveOperationException failed) {
            return Long.MIN_VALUE;
        }
    }

    private static void tellsEachCall(String readme) throws Exception {
        String source = Files.readString(Path.of("src/main/java/PoundBeasts.java"));
        Matcher face = FACE.matcher(source);
        List<String> calls = new ArrayList<>();
        while (face.find()) {
            String names = face.group(2).replaceAll("\\b(int|long|boolean) ", "");
            calls.add(face.group(1) + "(" + names + ")");
        }
        due("calls of the face", calls.size(), CALLS);
        for (String call : calls) {
            due("in the table, " + call, readme.contains("\n| `" + call + "` | "), true);
        }
    }

    private static void tellsEachRefusal(String readme) throws Exception {
        for (String name : new String[] {"UNKNOWN", "OUTSIDE", "STATE", "FULL", "NONE"}) {
            int number = PoundBeasts.class.getField(name).getInt(null);
            due("in the table, " + name, readme.contains("\n| `" + name + "` | " + number + " | "), true);
        }
    }
}
