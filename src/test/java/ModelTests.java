import java.util.ArrayList;
import java.util.List;
import java.util.Random;

/** Long runs of calls, drawn by fixed seeds: the class must answer what the model answers. */
public final class ModelTests {
    private static final int RUNS = 1500, CALLS = 512, FAULT_RUNS = 150, FAR_RUNS = 60;
    private static final int MOST_SHOWN = 5;
    /** What a far run drives on, and how far count must have come in one of them at least. */
    private static final int DEBTS = 0, DAYS = 1, ACTS = 2, SLOTS = 3, SEEDS = 4, KINDS = 5;
    private static final int[] COUNTED = {6, 3, 7}, FAR = {12 * 99, 320, 14};
    private static final int[] reached = new int[COUNTED.length];
    private static int wrong;

    private final Random random;
    private final PoundBeasts x = new PoundBeasts();
    private final Model model = new Model();
    private final List<String> told = new ArrayList<>();

    private ModelTests(long seed) {
        random = new Random(seed);
    }

    public static void main(String[] args) {
        for (int run = 0; run < RUNS && wrong < MOST_SHOWN; run++) {
            new ModelTests(run).mixedRun();
        }
        for (int run = 0; run < FAULT_RUNS && wrong < MOST_SHOWN; run++) {
            new ModelTests(RUNS + run).faultRun();
        }
        for (int run = 0; run < FAR_RUNS * KINDS && wrong < MOST_SHOWN; run++) {
            new ModelTests(RUNS + FAULT_RUNS + run).farRun(run % KINDS);
        }
        for (int i = 0; i < FAR.length; i++) {
            if (reached[i] < FAR[i]) {
                wrong++;
                System.out.println("count(" + COUNTED[i] + ") came to " + reached[i] + " alone, not to " + FAR[i]);
            }
        }
        System.out.println(wrong == 0 ? "class and model agree" : wrong + " runs in which they do not");
        if (wrong != 0) {
            System.exit(1);
        }
    }

    private boolean same(String call, long got, long want) {
        told.add(call + " = " + got);
        if (got == want) {
            return true;
        }
        wrong++;
        System.out.println(String.join("\n", told) + ", due is " + want + "\n");
        return false;
    }

    private int draw(int bound) {
        return random.nextInt(bound);
    }

    /** Mostly 0 to most, now and then one that is not there. */
    private int number(int most) {
        int kind = draw(24);
        if (kind == 0) {
            return most + 1;
        }
        if (kind == 1) {
            return -1;
        }
        return kind == 2 ? random.nextInt() : draw(most + 1);
    }

    private String village() {
        StringBuilder text = new StringBuilder("V");
        int people = 1 + draw(4);
        int beasts = draw(6);
        for (int p = 0; p < people; p++) {
            text.append('P').append(draw(3) == 0 ? draw(10) : draw(3)).append(draw(10));
        }
        for (int b = 0; b < beasts; b++) {
            text.append('B').append(draw(people)).append(1 + draw(9)).append(draw(4) == 0 ? draw(4) : draw(3));
        }
        for (int i = 0; people > 1 && i < 12; i++) {
            int one = draw(people);
            int other = (one + 1 + draw(people - 1)) % people;
            boolean fits = text.length() + 4 <= 56;
            if (fits && text.indexOf("D" + one + other) < 0) {
                text.append('D').append(one).append(other).append(1 + draw(9));
            }
        }
        return text.toString();
    }

    private boolean writeAll(String text) {
        for (int i = 0; i < text.length(); i++) {
            char letter = text.charAt(i);
            if (!same("write(" + (int) letter + ")", x.write(letter), model.write(letter))) {
                return false;
            }
        }
        return true;
    }

    private void mixedRun() {
        String text = village();
        if (!writeAll(text) || !same("village()", x.village(), model.village())) {
            return;
        }
        for (int call = text.length() + 1; call < CALLS; call++) {
            boolean good = draw(2) == 0 ? act() : draw(2) == 0 ? look() : law();
            if (!good) {
                return;
            }
        }
    }

    private boolean act() {
        int p = number(3);
        int o = number(3);
        int b = number(4);
        int n = 1 + number(4);
        switch (draw(14)) {
            case 0: case 1: case 2: case 3: case 4: case 5:
                return same("drive(" + p + ", " + b + ")", x.drive(p, b), model.drive(p, b));
            case 6: case 7:
                return same("day()", x.day(), model.day());
            case 8:
                return same("pay(" + p + ", " + o + ", " + n + ")", x.pay(p, o, n), model.pay(p, o, n));
            case 9:
                return same("breakOut(" + b + ")", x.breakOut(b), model.breakOut(b));
            case 10:
                return same("forfeit(" + b + ")", x.forfeit(b), model.forfeit(b));
            case 11:
                return same("undo()", x.undo(), model.undo());
            default:
                return draw(4) > 0 || rareAct();
        }
    }

    private boolean rareAct() {
        int s = number(1);
        int letter = draw(2) == 0 ? "VPBD0123456789".charAt(draw(14)) : number(255);
        switch (draw(8)) {
            case 0: case 1:
                return same("keep(" + s + ")", x.keep(s), model.keep(s));
            case 2: case 3: case 4:
                return same("again(" + s + ")", x.again(s), model.again(s));
            case 5:
                return same("village()", x.village(), model.village());
            case 6:
                return same("write(" + letter + ")", x.write(letter), model.write(letter));
            default:
                return draw(5) > 0 || same("wipe()", x.wipe(), model.wipe());
        }
    }

    private boolean look() {
        int p = number(3);
        int o = number(3);
        int b = number(4);
        int w = number(7);
        switch (draw(6)) {
            case 0: case 1:
                return same("person(" + p + ", " + w + ")", x.person(p, w), model.person(p, w));
            case 2: case 3:
                return same("beast(" + b + ", " + w + ")", x.beast(b, w), model.beast(b, w));
            case 4:
                return same("owes(" + p + ", " + o + ")", x.owes(p, o), model.owes(p, o));
            default:
                return same("count(" + w + ")", x.count(w), model.count(w));
        }
    }

    private boolean law() {
        int p = number(3);
        int o = number(3);
        int b = number(4);
        int n = number(9);
        int bits = draw(3) == 0 ? number(31) : 1 << draw(5) | 1 << draw(5);
        boolean flag = draw(2) == 0;
        switch (draw(16)) {
            case 0:
                return same("clause(" + p + ", " + b + ")", x.clause(p, b), model.clause(p, b));
            case 1:
                return same("worth(" + b + ", " + n + ")", x.worth(b, n), model.worth(b, n));
            case 2: case 3:
                return same("take(" + p + ", " + o + ", " + flag + ")", x.take(p, o, flag), model.take(p, o, flag));
            case 4:
                return draw(3) > 0 || same("each(" + flag + ")", x.each(flag), model.each(flag));
            case 5:
                return draw(8) > 0 || same("share(" + p + ", " + flag + ")", x.share(p, flag), model.share(p, flag));
            case 6:
                return same("ring(" + p + ")", x.ring(p), model.ring(p));
            case 7:
                return same("close(" + p + ")", x.close(p), model.close(p));
            case 8: case 9:
                return judged();
            case 10:
                return same("who(" + bits + ")", x.who(bits), model.who(bits));
            case 11: case 12:
                int w = number(2);
                return same("suspects(" + bits + ", " + w + ")", x.suspects(bits, w), model.suspects(bits, w));
            case 13: case 14:
                int v = number(1);
                return same("rests(" + p + ", " + o + ", " + v + ")", x.rests(p, o, v), model.rests(p, o, v));
            default:
                return byChance();
        }
    }

    private boolean judged() {
        int n = 1 + number(3);
        long row = 0;
        for (int i = 0; i < 4 && i < n; i++) {
            int beast = 1 + draw(5);
            int[] likely = {100 * (1 + draw(4)) + 10 * beast, 10 * beast + 1, 10 * beast + 2, 3, 3, draw(1000)};
            row = row * 1000 + likely[draw(20) > 0 ? draw(5) : 5];
        }
        row = draw(30) == 0 ? random.nextLong() : row;
        return same("judge(" + n + ", " + row + ")", x.judge(n, row), model.judge(n, row));
    }

    private boolean byChance() {
        int m = number(5);
        int tenths = number(10);
        int rounds = number(30);
        boolean flag = draw(2) == 0;
        long seed = random.nextLong();
        switch (draw(4)) {
            case 0:
                return same("seed(" + seed + ")", x.seed(seed), model.seed(seed));
            case 1:
                return same("villages(" + rounds + ")", x.villages(rounds), model.villages(rounds));
            default:
                return same("chance(" + m + ", " + tenths + ", " + flag + ")",
                        x.chance(m, tenths, flag), model.chance(m, tenths, flag));
        }
    }

    /** All 512 calls, most of which drive one thing on as far as it goes. */
    private void farRun(int kind) {
        String text = kind == DEBTS ? manyGuests() : village();
        if (!writeAll(text) || !same("village()", x.village(), model.village())) {
            return;
        }
        for (int call = text.length() + 1; call < CALLS; call++) {
            boolean good = draw(4) > 0 ? driveOn(kind) : draw(2) == 0 ? look() : law();
            if (!good) {
                return;
            }
        }
        // The object's calls are over, so the model, which agreed in all of them, is asked.
        for (int i = 0; i < COUNTED.length; i++) {
            reached[i] = Math.max(reached[i], model.count(COUNTED[i]));
        }
    }

    private String manyGuests() {
        StringBuilder text = new StringBuilder("V");
        for (int p = 0; p < 4; p++) {
            text.append('P').append(draw(10)).append(draw(10));
        }
        for (int p = 0; p < 4; p++) {
            text.append('B').append(p).append(7 + draw(3)).append(3);
        }
        for (int i = 0; i < 4; i++) {
            for (int j = i + 1; j < 4; j++) {
                text.append('D').append(draw(2) == 0 ? "" + i + j : "" + j + i).append(1 + draw(9));
            }
        }
        return text.toString();
    }

    private boolean driveOn(int kind) {
        int p = draw(4);
        int b = draw(5);
        int s = draw(2);
        switch (kind) {
            case DEBTS:
                return draw(12) == 0 ? act() : same("drive(" + p + ", " + b + ")", x.drive(p, b), model.drive(p, b));
            case DAYS:
                return draw(12) == 0 ? act() : same("day()", x.day(), model.day());
            case ACTS:
                return draw(2) == 0 ? act() : same("undo()", x.undo(), model.undo());
            case SLOTS:
                return draw(2) == 0 ? act() : draw(3) == 0
                        ? same("keep(" + s + ")", x.keep(s), model.keep(s))
                        : same("again(" + s + ")", x.again(s), model.again(s));
            case SEEDS:
            default:
                int m = 1 + draw(30);
                return draw(4) == 0 ? act() : same("villages(" + m + ")", x.villages(m), model.villages(m));
        }
    }

    /** A village with a letter changed, put in or left out: the fault of each start of it. */
    private void faultRun() {
        StringBuilder text = new StringBuilder(village());
        if (draw(2) == 0) {
            text = new StringBuilder("VP00P00D011D101P12").append(text.substring(1));
        }
        int at = draw(text.length());
        char letter = "VPBD0123456789:/p".charAt(draw(17));
        switch (draw(4)) {
            case 0:
                text.setCharAt(at, letter);
                break;
            case 1:
                text.insert(at, letter);
                break;
            case 2:
                text.deleteCharAt(at);
                break;
            default:
                break;
        }
        for (int i = 0; i < text.length(); i++) {
            if (!writeAll(text.substring(i, i + 1)) || !same("fault()", x.fault(), model.fault())) {
                return;
            }
        }
        same("village()", x.village(), model.village());
    }
}
