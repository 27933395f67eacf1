import java.lang.management.ManagementFactory;
import java.lang.reflect.Constructor;
import java.lang.reflect.Field;
import java.lang.reflect.Method;
import java.lang.reflect.Modifier;
import java.nio.file.Files;
import java.nio.file.Path;
import java.util.ArrayList;
import java.util.Arrays;
import java.util.List;
import java.util.TreeSet;
import java.util.regex.Matcher;
import java.util.regex.Pattern;

/** The public face, the part of Java that the source keeps to, and what a call makes: nothing. */
public final class FaceTests {
    private static final String SOURCE = "src/main/java/PoundBeasts.java";
    private static final String[] FACE = {
        "int again(int)", "int beast(int,int)", "int breakOut(int)", "int chance(int,int,boolean)",
        "int clause(int,int)", "int close(int)", "int count(int)", "int day()", "int drive(int,int)",
        "int each(boolean)", "int fault()", "int forfeit(int)", "int judge(int,long)", "int keep(int)",
        "int owes(int,int)", "int pay(int,int,int)", "int person(int,int)", "int rests(int,int,int)",
        "int ring(int)", "int share(int,boolean)", "int suspects(int,int)", "int take(int,int,boolean)",
        "int undo()", "int village()", "int villages(int)", "int who(int)", "int wipe()", "int worth(int,int)",
        "int write(int)", "long seed(long)"};
    private static final String[] CONSTANTS = {"FULL=-4", "NONE=-9", "OUTSIDE=-2", "STATE=-3", "UNKNOWN=-1"};
    private static final String FORBIDDEN = "\\b(throw|throws|try|catch|finally|synchronized|assert|Object|"
            + "hashCode|toString|double|float|System\\.(?!arraycopy)\\w+|\\w+Exact)\\b|->|::|\\bimport (?!java\\.util\\.Arrays;)";
    private static int wrong;

    private static void due(String what, Object got, Object want) {
        if (!got.equals(want)) {
            wrong++;
            System.out.println(what + " is " + got + ", due is " + want);
        }
    }

    public static void main(String[] args) throws Exception {
        methods();
        constants();
        classesInside();
        source();
        methodsAreShort();
        nothingIsMade();
        System.out.println(wrong == 0 ? "the face is as due" : wrong + " things are not as due");
        if (wrong != 0) {
            System.exit(1);
        }
    }

    private static void methods() {
        due("final and public", Modifier.toString(PoundBeasts.class.getModifiers()), "public final");
        TreeSet<String> face = new TreeSet<>();
        TreeSet<String> publicNames = new TreeSet<>();
        List<String> privateNames = new ArrayList<>();
        for (Method m : PoundBeasts.class.getDeclaredMethods()) {
            if (Modifier.isPrivate(m.getModifiers())) {
                privateNames.add(m.getName());
                continue;
            }
            due("public: " + m, Modifier.toString(m.getModifiers()), "public");
            String types = Arrays.toString(m.getParameterTypes()).replace(" ", "");
            face.add(m.getReturnType() + " " + m.getName() + "(" + types.substring(1, types.length() - 1) + ")");
            publicNames.add(m.getName());
        }
        due("face", face, new TreeSet<>(List.of(FACE)));
        privateNames.retainAll(publicNames);
        due("private methods with public names", privateNames, List.of());
        Constructor<?>[] all = PoundBeasts.class.getDeclaredConstructors();
        due("constructors", all.length + " " + all[0], "1 public PoundBeasts()");
    }

    private static void constants() throws IllegalAccessException {
        TreeSet<String> constants = new TreeSet<>();
        for (Field f : PoundBeasts.class.getDeclaredFields()) {
            if (!Modifier.isPrivate(f.getModifiers())) {
                due("modifiers of " + f, Modifier.toString(f.getModifiers()), "public static final");
                constants.add(f.getName() + "=" + f.getInt(null));
            }
        }
        due("constants", constants, new TreeSet<>(List.of(CONSTANTS)));
    }

    private static void classesInside() {
        Class<?>[] inside = PoundBeasts.class.getDeclaredClasses();
        due("twelve classes at most", inside.length <= 11, true);
        for (Class<?> c : inside) {
            due("static: " + c, Modifier.isStatic(c.getModifiers()), true);
            due("private or package-visible: " + c, (c.getModifiers() & (Modifier.PUBLIC | Modifier.PROTECTED)) == 0, true);
            int fields = 0;
            for (Field f : c.getDeclaredFields()) {
                boolean fixed = Modifier.isStatic(f.getModifiers());
                due("static fields are final: " + f, !fixed || Modifier.isFinal(f.getModifiers()), true);
                fields += fixed ? 0 : 1;
            }
            due("some twenty fields: " + c, fields <= 20, true);
        }
    }

    private static void source() throws Exception {
        String source = Files.readString(Path.of(SOURCE));
        String code = source.replaceAll("(?s)/\\*.*?\\*/", "").replaceAll("//[^\n]*", "");
        Matcher forbidden = Pattern.compile(FORBIDDEN).matcher(code);
        while (forbidden.find()) {
            due("in the source", forbidden.group(), "nothing of the kind");
        }
        due("letters 1 to 127 alone", source.chars().allMatch(c -> c > 0 && c < 128), true);
        for (String made : code.split("\\bnew ")) {
            boolean known = made.matches("(?s)(int\\[|Script\\(|Village\\(|Acts\\(|Matching\\(|Rings\\(|Bargain\\().*");
            due("what is made: " + made.lines().findFirst().orElse(""), known || made.startsWith("import"), true);
        }
    }

    private static void methodsAreShort() throws Exception {
        List<String> lines = Files.readAllLines(Path.of(SOURCE));
        Pattern head = Pattern.compile("( {4}| {8})(?:(?:public|private|static) )*[\\w\\[\\]]+ (\\w+)\\((.*)\\) \\{");
        int found = 0;
        for (int at = 0; at < lines.size(); at++) {
            Matcher method = head.matcher(lines.get(at));
            if (method.matches()) {
                found++;
                int end = at + lines.subList(at, lines.size()).indexOf(method.group(1) + "}");
                due("sixty lines at most: " + method.group(2), end > at && end - at < 60, true);
                due("seven parameters at most: " + method.group(2), method.group(3).split(",").length <= 7, true);
            }
        }
        due("methods found in the source", found > 100, true);
    }

    private static long dearest(PoundBeasts x) {
        long sum = x.village() + x.fault() + x.drive(1, 2) + x.day() + x.pay(0, 1, 1) + x.breakOut(2) + x.undo();
        for (int a = 0; a < 4; a++) {
            for (int b = 0; b < 5; b++) {
                sum += x.person(a, b) + x.beast(b, a) + x.clause(a, b) + x.worth(b, 9) + x.owes(a, b);
                sum += x.take(a, b, true) + x.rests(a, b, 0) + x.suspects(b, a) + x.chance(b, a, true) + x.who(b);
            }
            sum += x.share(a, true) + x.ring(a) + x.close(a) + x.judge(4, 3003003230L) + x.count(a) + x.forfeit(a);
        }
        return sum + x.each(true) + x.villages(30) + x.seed(9) + x.keep(0) + x.again(0) + x.again(1);
    }

    private static PoundBeasts written() {
        PoundBeasts x = new PoundBeasts();
        for (char letter : "VP25P08P91P00B051B192B140B073B161D018D203D123D311D104".toCharArray()) {
            x.write(letter);
        }
        return x;
    }

    private static void nothingIsMade() {
        com.sun.management.ThreadMXBean threads = (com.sun.management.ThreadMXBean) ManagementFactory.getThreadMXBean();
        long sum = 0;
        long least = Long.MAX_VALUE;
        // The machine itself may make something now and then, so the least of several rounds counts.
        for (int round = 0; round < 20; round++) {
            PoundBeasts x = written();
            long before = threads.getThreadAllocatedBytes(Thread.currentThread().getId());
            sum += dearest(x);
            long after = threads.getThreadAllocatedBytes(Thread.currentThread().getId());
            long again = threads.getThreadAllocatedBytes(Thread.currentThread().getId());
            least = Math.min(least, after - before - (again - after));
        }
        due("bytes that the calls make (" + (sum == 0 ? "" : "run") + ")", least <= 0, true);
    }
}
