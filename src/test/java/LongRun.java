/** One object, used as long as anything is promised of it: its calls are counted. */
final class LongRun {
    static final int CALLS = 512;

    private final PoundBeasts x = new PoundBeasts();
    private int made;

    static LongRun written(String text) {
        LongRun run = new LongRun();
        for (int i = 0; i < text.length(); i++) {
            Edge.due(run.call().write(text.charAt(i)), i + 1);
        }
        return run;
    }

    static LongRun of(String text) {
        LongRun run = written(text);
        if (run.call().village() < 0) {
            Edge.wrong("no village: " + text);
        }
        return run;
    }

    /** The object, for one call more. */
    PoundBeasts call() {
        return calls(1);
    }

    private PoundBeasts calls(int more) {
        made += more;
        if (made > CALLS) {
            Edge.wrong("call " + made + ", of which nothing is promised");
        }
        return x;
    }

    int left() {
        return CALLS - made;
    }

    LongRun days(int n) {
        for (int i = 0; i < n; i++) {
            call().day();
        }
        return this;
    }

    /** Calls that change nothing, till only so many are left. */
    LongRun idle(int left) {
        while (left() > left) {
            call().count(0);
        }
        return this;
    }

    /** What Edge.look tells, its calls counted. */
    String look() {
        int people = call().count(1);
        int beasts = call().count(2);
        return Edge.look(calls(4 + 2 * people + people * people + 5 * beasts));
    }
}
