import java.lang.reflect.InvocationTargetException;
import java.lang.reflect.Method;
import java.util.Arrays;
import java.util.Comparator;
import java.util.TreeMap;

/** What the tests of the edges share: what is due, scenes to begin from, and that nothing has changed. */
final class Edge {
    static final int UNKNOWN = PoundBeasts.UNKNOWN, OUTSIDE = PoundBeasts.OUTSIDE, STATE = PoundBeasts.STATE;
    static final int FULL = PoundBeasts.FULL, NONE = PoundBeasts.NONE;
    /** Four people and five beasts of every kind; 0 and 1 owe each other. */
    static final String RICH = "VP25P08P91P00B051B192B140B073B161D018D203D123D311D104";

    private static int wrong;
    private static String test = "";

    private Edge() {
    }

    interface Call {
        long on(PoundBeasts x);
    }

    interface Scene {
        PoundBeasts made();
    }

    // ---- running

    /** Runs each method that bears a promise's number, and counts them by promise. */
    static void run(Class<?> tests, TreeMap<Integer, Integer> ranByPromise) throws IllegalAccessException {
        Method[] methods = tests.getDeclaredMethods();
        Arrays.sort(methods, Comparator.comparing(Method::getName));
        for (Method method : methods) {
            if (!method.getName().matches("promise\\d\\d_.*")) {
                continue;
            }
            test = method.getName();
            ranByPromise.merge(Integer.parseInt(test.substring(7, 9)), 1, Integer::sum);
            try {
                method.invoke(null);
            } catch (InvocationTargetException thrown) {
                wrong("threw " + thrown.getCause());
            }
        }
    }

    static int wrong() {
        return wrong;
    }

    static void wrong(String what) {
        wrong++;
        String line = StackWalker.getInstance().walk(frames -> frames
                .filter(frame -> frame.getClassName().endsWith("Edges"))
                .findFirst().map(frame -> " (line " + frame.getLineNumber() + ")").orElse(""));
        System.out.println(test + line + ": " + what);
    }

    // ---- what is due

    static void due(long got, long want) {
        if (got != want) {
            wrong("answered " + got + ", due is " + want);
        }
    }

    static void same(String got, String want) {
        if (!got.equals(want)) {
            wrong("now\n" + got + "\ndue is\n" + want);
        }
    }

    /** The call answers this, as often as it is made, and then all is as if it had not been made. */
    static void changesNothing(Scene scene, long want, Call call) {
        PoundBeasts asked = scene.made();
        for (int time = 0; time < 3; time++) {
            due(call.on(asked), want);
        }
        Scene afterwards = () -> {
            PoundBeasts x = scene.made();
            call.on(x);
            return x;
        };
        same(image(afterwards), image(scene));
    }

    /** The same in the middle of a run: what can be seen without changing it is as it was. */
    static void refused(PoundBeasts x, long want, Call call) {
        String before = look(x) + x.count(0) + ' ' + x.fault();
        due(call.on(x), want);
        same(look(x) + x.count(0) + ' ' + x.fault(), before);
    }

    /** Numbers that are not from least to most: those right beside, and those farthest off. */
    static int[] beside(int least, int most) {
        return new int[] {least - 1, most + 1, Integer.MIN_VALUE, Integer.MAX_VALUE};
    }

    // ---- scenes

    static PoundBeasts written(String text) {
        PoundBeasts x = new PoundBeasts();
        write(x, text);
        return x;
    }

    static void write(PoundBeasts x, String text) {
        for (int i = 0; i < text.length(); i++) {
            x.write(text.charAt(i));
        }
    }

    static PoundBeasts made(String text) {
        PoundBeasts x = written(text);
        if (x.village() < 0) {
            wrong("no village: " + text);
        }
        return x;
    }

    static PoundBeasts days(PoundBeasts x, int n) {
        for (int i = 0; i < n; i++) {
            x.day();
        }
        return x;
    }

    /** Something of everything: acts of each kind, what is kept, a seed, and a text that is not at its end. */
    static PoundBeasts rich() {
        PoundBeasts x = made(RICH);
        x.seed(-77);
        x.drive(2, 1);
        days(x, 3);
        x.keep(0);
        x.drive(0, 2);
        x.drive(1, 3);
        x.pay(0, 1, 2);
        x.forfeit(1);
        x.drive(1, 0);
        x.breakOut(0);
        x.drive(1, 0);
        x.day();
        x.wipe();
        write(x, "VP12P34D0");
        return x;
    }

    /** A row of acts that is full and has gone round; one beast is dead, one shut in, the text is full. */
    static PoundBeasts late() {
        PoundBeasts x = made("VP91P19B090B022B190B063D019D105");
        x.keep(1);
        x.drive(1, 1);
        days(x, 10);
        x.drive(0, 2);
        x.drive(1, 3);
        x.pay(1, 0, 2);
        days(x, 5);
        x.drive(1, 0);
        x.day();
        x.seed(Long.MAX_VALUE);
        while (x.write('V') != FULL) {
            continue;
        }
        return x;
    }

    // ---- what can be seen

    /** What person, beast, owes and count tell. */
    static String look(PoundBeasts x) {
        StringBuilder all = new StringBuilder("day " + x.count(3) + " people");
        int people = x.count(1);
        int beasts = x.count(2);
        for (int person = 0; person < people; person++) {
            all.append(' ').append(x.person(person, 0)).append('/').append(x.person(person, 1)).append(" owes");
            for (int other = 0; other < people; other++) {
                all.append(' ').append(x.owes(person, other));
            }
            all.append(';');
        }
        all.append(" beasts");
        for (int beast = 0; beast < beasts; beast++) {
            for (int what = 0; what <= 4; what++) {
                all.append(' ').append(x.beast(beast, what));
            }
            all.append(';');
        }
        return all.append(" acts ").append(x.count(7)).append('\n').toString();
    }

    /** What person, beast, owes and count tell, each by a name of its own. */
    private static TreeMap<String, Integer> named(PoundBeasts x) {
        TreeMap<String, Integer> all = new TreeMap<>();
        String[] counted = {"letters", "people", "beasts", "day", "shut", "dead", "owed", "acts"};
        for (int what = 0; what < counted.length; what++) {
            all.put(counted[what], x.count(what));
        }
        for (int person = 0; person < x.count(1); person++) {
            all.put("hay" + person, x.person(person, 0));
            all.put("money" + person, x.person(person, 1));
            for (int other = 0; other < x.count(1); other++) {
                all.put("owes" + person + other, x.owes(person, other));
            }
        }
        String[] ofBeasts = {"owner", "worth", "kind", "holder", "days"};
        for (int beast = 0; beast < x.count(2); beast++) {
            for (int what = 0; what < ofBeasts.length; what++) {
                all.put(ofBeasts[what] + beast, x.beast(beast, what));
            }
        }
        return all;
    }

    /** The call answers this, and what can be seen is then as told here, in the order of names, and else as before. */
    static void changes(PoundBeasts x, Call call, long want, String changes) {
        TreeMap<String, Integer> before = named(x);
        due(call.on(x), want);
        StringBuilder found = new StringBuilder();
        named(x).forEach((name, now) -> {
            if (!now.equals(before.get(name))) {
                found.append(found.length() == 0 ? "" : " ").append(name).append('=').append(now);
            }
        });
        same(found.toString(), changes);
    }

    /**
     * All that can ever be seen of what the scene makes: now, each act undone, each slot, the text, the
     * seed. Each is looked at on an object of its own, since looking there changes it.
     */
    static String image(Scene scene) {
        StringBuilder all = new StringBuilder(look(scene.made()));
        int acts = scene.made().count(7);
        for (int undone = 1; undone <= acts + 1; undone++) {
            PoundBeasts x = scene.made();
            int left = 0;
            for (int i = 0; i < undone; i++) {
                left = x.undo();
            }
            all.append("undone ").append(left).append(' ').append(look(x));
        }
        for (int slot = 0; slot <= 1; slot++) {
            PoundBeasts x = scene.made();
            all.append("slot ").append(x.again(slot)).append(' ').append(look(x));
        }
        return all.append(textOf(scene)).append("seed ").append(scene.made().seed(0)).toString();
    }

    private static String textOf(Scene scene) {
        PoundBeasts asItIs = scene.made();
        String now = "text " + asItIs.count(0) + " fault " + asItIs.fault() + " makes " + asItIs.village() + ' ';
        PoundBeasts ended = scene.made();
        write(ended, "15");
        return now + look(asItIs) + "ended " + ended.village() + ' ' + look(ended);
    }
}
