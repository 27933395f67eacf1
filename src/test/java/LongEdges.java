import java.math.BigInteger;
import java.util.ArrayDeque;
import java.util.Deque;

/** Runs up to the 512th call: THE TEXT, THE DAY, ACTS, SLOTS and THE SEED, as far as the calls take them. */
final class LongEdges {
    private static final int OUTSIDE = Edge.OUTSIDE, UNKNOWN = Edge.UNKNOWN, STATE = Edge.STATE;
    private static final int FULL = Edge.FULL, NONE = Edge.NONE;
    private static final int LETTERS = 0, DAY = 3, SHUT_IN = 4, DEAD = 5, OWED = 6, ACTS = 7;
    private static final String OX = "VP00P00B091D019";
    /** The last day of the 41st March, and the day behind it. */
    private static final int LATE_MARCH = 482, BEHIND_IT = 483;

    private LongEdges() {
    }

    private static boolean isMarch(int day) {
        int month = day;
        while (month >= 12) {
            month -= 12;
        }
        return month <= 2;
    }

    // ---- the last call of all

    private static final Edge.Call[] EVERY = {
        x -> x.write('5'), x -> x.wipe(), x -> x.fault(), x -> x.village(), x -> x.person(1, 2), x -> x.beast(1, 0),
        x -> x.owes(1, 0), x -> x.drive(0, 4), x -> x.drive(1, 3), x -> x.day(), x -> x.pay(1, 0, 1),
        x -> x.breakOut(2), x -> x.forfeit(2), x -> x.undo(), x -> x.clause(0, 4), x -> x.worth(2, 9),
        x -> x.take(0, 1, false), x -> x.take(0, 1, true), x -> x.each(false), x -> x.each(true),
        x -> x.share(0, true), x -> x.share(0, false), x -> x.ring(0), x -> x.close(0),
        x -> x.judge(4, 3003003041L), x -> x.who(16), x -> x.suspects(16, 0), x -> x.suspects(16, 1),
        x -> x.rests(1, 0, 0), x -> x.rests(1, 0, 1), x -> x.chance(1, 3, true), x -> x.chance(1, 3, false),
        x -> x.seed(5), x -> x.villages(30), x -> x.keep(1), x -> x.again(0), x -> x.again(1), x -> x.count(OWED)
    };

    // Edge.rich makes 78 calls, so 433 come between it and the last one.
    static void promise01_eachCallIsAnsweredAsThe512th() {
        for (Edge.Call call : EVERY) {
            PoundBeasts late = Edge.rich();
            for (int i = 0; i < LongRun.CALLS - 79; i++) {
                late.count(i % 8);
            }
            Edge.due(call.on(late), call.on(Edge.rich()));
        }
    }

    static void promise01_nobodyTillTheLastCall() {
        LongRun run = new LongRun();
        while (run.left() >= 8) {
            Edge.due(run.call().person(0, 0), UNKNOWN);
            Edge.due(run.call().beast(0, 0), UNKNOWN);
            Edge.due(run.call().count(DAY), 0);
            Edge.due(run.call().undo(), STATE);
            Edge.due(run.call().again(0), STATE);
            Edge.due(run.call().villages(0), OUTSIDE);
            Edge.due(run.call().seed(0), 0);
            Edge.due(run.call().fault(), 0);
        }
        Edge.due(run.left(), 0);
    }

    // ---- THE TEXT

    static void promise02_eachLetterFrom0To255() {
        LongRun run = new LongRun();
        for (int letter = 0; letter <= 255; letter++) {
            Edge.due(run.call().write(letter), letter % 56 + 1);
            if (letter % 56 == 55) {
                Edge.due(run.call().write(letter), FULL);
                Edge.due(run.call().wipe(), 56);
            }
        }
    }

    static void promise02_eachNumberBesideALetter() {
        LongRun run = LongRun.written("V");
        for (int off = 1; run.left() >= 3; off++) {
            Edge.due(run.call().write(-off), OUTSIDE);
            Edge.due(run.call().write(255 + off), OUTSIDE);
        }
        Edge.due(run.call().count(LETTERS), 1);
    }

    static void promise02_aFullTextStaysFullTillTheLastCall() {
        LongRun run = LongRun.written("VP00".repeat(14));
        while (run.left() > 1) {
            Edge.due(run.call().write('P'), FULL);
        }
        Edge.due(run.call().count(LETTERS), 56);
    }

    static void promise03_filledAndWipedTillTheLastCall() {
        LongRun run = new LongRun();
        for (int length = 0; run.left() > length; length = length == 56 ? 0 : length + 1) {
            for (int i = 1; i <= length; i++) {
                Edge.due(run.call().write('V'), i);
            }
            Edge.due(run.call().wipe(), length);
        }
    }

    static void promise04_eachStartOfAVillageAgainAndAgain() {
        LongRun run = new LongRun();
        while (run.left() >= 108) {
            for (int i = 0; i < Edge.RICH.length(); i++) {
                run.call().write(Edge.RICH.charAt(i));
                boolean atItsEnd = i == 0 || i <= 12 && i % 3 == 0 || i > 12 && i % 4 == 0;
                Edge.due(run.call().fault(), atItsEnd ? NONE : i + 1);
            }
            Edge.due(run.call().write('D'), 54);
            Edge.due(run.call().wipe(), 54);
        }
        Edge.due(run.left(), 512 - 4 * 108);
    }

    static void promise05_madeAnewTillTheLastCallNothingOfTheOldIsLeft() {
        LongRun run = LongRun.of("VP13P20B020B143B190D013D107");
        String first = run.look();
        while (run.left() >= 45) {
            run.call().drive(1, 0);
            run.call().drive(0, 1);
            run.call().drive(0, 2);
            run.days(3);
            run.call().pay(0, 1, 1);
            run.call().forfeit(2);
            run.call().keep(1);
            run.call().day();
            Edge.due(run.call().count(DEAD), 1);
            Edge.due(run.call().village(), 23);
            Edge.due(run.call().again(1), STATE);
            Edge.due(run.call().undo(), STATE);
            Edge.same(run.look(), first);
        }
    }

    static void promise05_madeAnewOnTheLateDayItIsDay0() {
        LongRun run = LongRun.of(OX).days(490);
        Edge.due(run.call().village(), 21);
        Edge.due(run.call().count(DAY), 0);
        Edge.due(run.call().clause(1, 0), 5);
    }

    // ---- THE DAY

    static void promise10_theDayGoesOnTillTheLastCall() {
        LongRun run = LongRun.of("V");
        while (run.left() > 1) {
            Edge.due(run.call().day(), 0);
        }
        Edge.due(run.call().count(DAY), 509);
    }

    static void promise10_aNewObjectHasDaysTillTheLastCall() {
        LongRun run = new LongRun().days(511);
        Edge.due(run.call().count(DAY), 511);
    }

    static void promise10_whatWasShutInLongAgoEatsNoMore() {
        LongRun run = LongRun.of("VP90P00B090B092D019");
        run.call().drive(1, 0);
        run.days(18);
        Edge.due(run.call().count(DEAD), 1);
        run.days(400);
        Edge.due(run.call().drive(1, 1), 0);
        Edge.due(run.call().person(0, 0), 0);
        for (int worth = 7; worth > 0; worth -= 2) {
            Edge.due(run.call().day(), 1);
            Edge.due(run.call().beast(1, 1), worth);
        }
        Edge.due(run.call().day(), 0);
        Edge.due(run.call().count(DEAD), 3);
        Edge.due(run.call().count(DAY), 423);
    }

    static void promise07_aCowIsShutInFor17DaysAtMost() {
        shutInTillItDies("VP90P00B090D019", 17, 1);
    }

    static void promise07_aSheepIsShutInFor13DaysAtMost() {
        shutInTillItDies("VP90P00B092D019", 13, 2);
    }

    private static void shutInTillItDies(String text, int longest, int loss) {
        LongRun run = LongRun.of(text);
        run.call().drive(1, 0);
        for (int days = 1; days <= longest; days++) {
            Edge.due(run.call().day(), 1);
            Edge.due(run.call().beast(0, 4), days);
            Edge.due(run.call().beast(0, 1), 9 - loss * Math.max(0, days - 9));
            Edge.due(run.call().person(0, 0), Math.max(0, 9 - days));
        }
        Edge.due(run.call().day(), 0);
        Edge.due(run.call().beast(0, 5), 1);
        Edge.due(run.call().beast(0, 4), 0);
        Edge.due(run.call().beast(0, 1), 0);
        while (run.left() > 4) {
            run.call().day();
        }
        Edge.due(run.call().beast(0, 1), 0);
        Edge.due(run.call().beast(0, 4), 0);
        Edge.due(run.call().beast(0, 3), NONE);
        Edge.due(run.call().count(SHUT_IN), 0);
    }

    static void promise15_anOxOnEachDayOfTwentyYears() {
        LongRun run = LongRun.of(OX);
        int day = 0;
        while (run.left() >= 2) {
            Edge.due(run.call().clause(1, 0), isMarch(day) ? 5 : 0);
            run.call().day();
            day++;
        }
        Edge.due(day, 248);
    }

    static void promise15_anOxOnEachDayOfTheLastYear() {
        LongRun run = LongRun.of(OX).days(471);
        for (int day = 471; run.left() > 0; day++) {
            Edge.due(run.call().clause(1, 0), isMarch(day) ? 5 : 0);
            if (run.left() > 0) {
                run.call().day();
            }
        }
    }

    // Each of these asks on the last day of the 41st March, and on the day behind it.

    private static void dueLate(Edge.Call call, long inMarch, long behind) {
        Edge.due(call.on(LongRun.of(OX).days(LATE_MARCH).call()), inMarch);
        Edge.due(call.on(LongRun.of(OX).days(BEHIND_IT).call()), behind);
    }

    static void promise09_anOxInALateMarch() {
        dueLate(x -> x.drive(1, 0), STATE, 0);
    }

    static void promise16_aLateDayIsLikeTheFirst() {
        LongRun run = LongRun.of(OX).days(BEHIND_IT);
        Edge.due(run.call().worth(0, 9), 9);
        run.call().drive(1, 0);
        for (int n = 0; n <= 9; n++) {
            Edge.due(run.call().worth(0, n), 9 - n);
        }
    }

    static void promise17_anOxInALateMarch() {
        dueLate(x -> x.take(1, 0, false), NONE, 0);
        dueLate(x -> x.take(1, 0, true), NONE, 3);
    }

    static void promise18_anOxInALateMarch() {
        dueLate(x -> x.each(false), 0, 1);
        dueLate(x -> x.each(true), 0, 1);
    }

    static void promise19_anOxInALateMarch() {
        dueLate(x -> x.share(1, true), 0, 1);
        dueLate(x -> x.share(1, false), 1, 1);
    }

    static void promise22_anOxInALateMarch() {
        dueLate(x -> x.judge(1, 210), 0, NONE);
        dueLate(x -> x.judge(2, 3210), NONE, NONE);
    }

    static void promise23_anOxInALateMarch() {
        dueLate(x -> x.who(1), 0, 2);
    }

    static void promise24_anOxInALateMarch() {
        dueLate(x -> x.suspects(1, 0), 0, 1);
        dueLate(x -> x.suspects(1, 1), NONE, 2);
        dueLate(x -> x.suspects(1, 2), NONE, 1);
    }

    static void promise25_anOxInALateMarch() {
        dueLate(x -> x.rests(0, 1, 0), 1, 1);
        dueLate(x -> x.rests(0, 1, 1), 0, 1);
    }

    // The number drawn first is 6: person 1 drives beast 0, if it may; no later one is.
    static void promise28_anOxInALateMarch() {
        long seed = 0;
        while (drawn(after(seed, 1)) != 6 || drawn(after(seed, 2)) == 6 || drawn(after(seed, 3)) == 6) {
            seed++;
        }
        long found = seed;
        dueLate(x -> x.seed(found) + x.villages(3), 9, 3);
    }

    // ---- ACTS

    static void promise14_behindAnyNumberOfActsTheLastFourteen() {
        for (int acts = 0; acts <= 495; acts++) {
            LongRun run = LongRun.of("V").days(acts);
            for (int left = Math.min(14, acts) - 1; left >= 0; left--) {
                Edge.due(run.call().undo(), left);
            }
            Edge.due(run.call().count(DAY), Math.max(0, acts - 14));
        }
    }

    static void promise14_upAndDownTillTheLastCall() {
        int[] steps = {15, -14, 3, -2, 29, -15, 1, -1, 14, -14, 13, -13, 2, -3, 40, -7, 7, -8, 57, -14, 5, 31, -20};
        LongRun run = LongRun.of("V");
        Deque<Integer> row = new ArrayDeque<>();
        int day = 0;
        for (int at = 0; run.left() >= 2; at = (at + 1) % steps.length) {
            for (int i = 0; i < steps[at] && run.left() >= 2; i++) {
                row.addLast(day);
                day++;
                if (row.size() > 14) {
                    row.removeFirst();
                }
                run.call().day();
            }
            for (int i = 0; i < -steps[at] && run.left() >= 2; i++) {
                boolean none = row.isEmpty();
                day = none ? day : row.removeLast();
                Edge.due(run.call().undo(), none ? STATE : row.size());
            }
            Edge.due(run.call().count(at % 2 == 0 ? DAY : ACTS), at % 2 == 0 ? day : row.size());
        }
    }

    static void promise14_doneAndUndoneTillTheLastCall() {
        LongRun run = LongRun.of("VP93P93B090B193D019D109").days(5);
        String before = run.look();
        int lookCalls = 2 + 4 + 4 + 4 + 10;
        while (run.left() >= 14 + lookCalls) {
            run.call().drive(1, 0);
            run.call().drive(0, 1);
            run.days(3);
            run.call().pay(1, 0, 3);
            run.call().forfeit(0);
            for (int acts = 11; acts >= 5; acts--) {
                Edge.due(run.call().undo(), acts);
            }
            Edge.same(run.look(), before);
        }
    }

    static void promise14_whatIsRefusedIsNotInTheRowTillTheLastCall() {
        LongRun run = LongRun.of(OX).days(2);
        while (run.left() >= 8) {
            run.call().drive(1, 0);
            run.call().pay(0, 1, 1);
            run.call().breakOut(0);
            run.call().forfeit(0);
        }
        Edge.due(run.call().count(ACTS), 2);
        Edge.due(run.call().undo(), 1);
        Edge.due(run.call().undo(), 0);
        Edge.due(run.call().undo(), STATE);
    }

    // ---- SLOTS

    static void promise29_keptOnEachDayTillTheLastCall() {
        LongRun run = LongRun.of("V");
        for (int day = 0; run.left() >= 2; day++) {
            Edge.due(run.call().keep(day % 2), day);
            run.call().day();
        }
    }

    static void promise30_toAndFroTillTheLastCall() {
        LongRun run = LongRun.of("V");
        int[] kept = {NONE, NONE};
        int day = 0;
        for (int step = 0; run.left() >= 4; step++) {
            int slot = step / 3 % 2;
            run.call().day();
            day++;
            if (step % 7 < 3) {
                Edge.due(run.call().keep(slot), day);
                kept[slot] = day;
            }
            if (step % 5 == 4) {
                day = kept[slot] == NONE ? day : kept[slot];
                Edge.due(run.call().again(slot), kept[slot] == NONE ? STATE : day);
            }
            Edge.due(run.call().count(DAY), day);
        }
    }

    static void promise30_goneOnFromLongAfterAllIsAsItWasKept() {
        LongRun run = LongRun.of("VP93P91B090B193B180D019D109");
        run.call().drive(1, 0);
        run.call().drive(0, 1);
        run.days(2);
        run.call().pay(0, 1, 3);
        run.call().keep(0);
        String first = actsAside(run.look());
        run.days(2);
        run.call().forfeit(0);
        run.call().keep(1);
        String second = actsAside(run.look());
        run.days(200);
        run.call().drive(0, 2);
        run.days(40);
        while (run.left() >= 2 * 30 + 2) {
            Edge.due(run.call().again(0), 2);
            Edge.same(actsAside(run.look()), first);
            run.call().day();
            Edge.due(run.call().again(1), 4);
            Edge.same(actsAside(run.look()), second);
        }
    }

    private static String actsAside(String look) {
        return look.replaceAll(" acts \\d+", "");
    }

    static void promise30_fromTheSameSlotTillTheLastCall() {
        LongRun run = LongRun.of("VP00P00B090D011").days(3);
        run.call().keep(0);
        while (run.left() >= 6) {
            Edge.due(run.call().again(0), 3);
            Edge.due(run.call().undo(), STATE);
            Edge.due(run.call().drive(1, 0), 0);
            Edge.due(run.call().breakOut(0), 1);
            Edge.due(run.call().owes(0, 1), 4);
            Edge.due(run.call().count(ACTS), 2);
        }
    }

    // ---- THE SEED

    private static final BigInteger WORD = BigInteger.ONE.shiftLeft(64);
    private static final BigInteger FACTOR = new BigInteger("6364136223846793005");
    private static final BigInteger STEP = new BigInteger("1442695040888963407");

    /** So many steps at once: the factor's power, and the sum of its lower powers times the step. */
    private static long after(long seed, int times) {
        BigInteger less = FACTOR.subtract(BigInteger.ONE);
        BigInteger power = FACTOR.modPow(BigInteger.valueOf(times), WORD.multiply(less));
        BigInteger sum = power.subtract(BigInteger.ONE).divide(less);
        BigInteger start = BigInteger.valueOf(seed);
        return start.multiply(power).add(sum.multiply(STEP)).longValue();
    }

    private static int drawn(long value) {
        return BigInteger.valueOf(value).mod(WORD).shiftRight(33).mod(BigInteger.valueOf(30)).intValue();
    }

    static void promise27_eachTellsTheOneAheadTillTheLastCall() {
        LongRun run = new LongRun();
        long before = 0;
        long next = 1;
        while (run.left() > 0) {
            Edge.due(run.call().seed(next), before);
            before = next;
            next = next * -3 + 7;
        }
    }

    static void promise28_theSeedGoesAsFarAsTheCallsTakeIt() {
        LongRun run = new LongRun();
        while (run.left() > 1) {
            Edge.due(run.call().villages(30), 0);
        }
        Edge.due(run.call().seed(0), after(0, 30 * 511));
    }

    static void promise28_theSeedComesToBothEndsOfALongAndToItsMiddle() {
        for (long wanted : new long[] {0, 1, -1, Long.MIN_VALUE, Long.MAX_VALUE, 1L << 33, (1L << 33) - 1}) {
            BigInteger ahead = BigInteger.valueOf(wanted).subtract(STEP).multiply(FACTOR.modInverse(WORD));
            LongRun run = LongRun.of("VP90P00B040D019");
            run.call().seed(ahead.longValue());
            Edge.due(run.call().villages(1), 9);
            Edge.due(run.call().seed(0), wanted);
        }
    }

    static void promise28_theSeedIsToldAllAlongTheWay() {
        LongRun run = LongRun.of(Edge.RICH);
        long seed = Long.MIN_VALUE;
        run.call().seed(seed);
        for (int m = 1; run.left() >= 3; m = m == 30 ? 1 : m + 1) {
            run.call().villages(m);
            seed = after(seed, m);
            Edge.due(run.call().seed(seed), seed);
        }
    }

    static void promise28_theVillageStaysAsItIsTillTheLastCall() {
        LongRun run = LongRun.of(Edge.RICH);
        run.call().drive(2, 1);
        run.days(2);
        String before = run.look();
        while (run.left() > 60) {
            run.call().villages(30);
        }
        Edge.same(run.look(), before);
    }

    // The same seed makes the same villages, whatever has been drawn in between.
    static void promise28_fromTheSameSeedTheSameTillTheLastCall() {
        LongRun run = LongRun.of("VP90P00B040B050B060D019");
        long seed = 0;
        while (drawn(after(seed, 1)) != 6 || drawn(after(seed, 2)) != 7) {
            seed++;
        }
        while (run.left() >= 4) {
            run.call().seed(seed);
            Edge.due(run.call().villages(3), 5);
            run.call().seed(seed);
            Edge.due(run.call().villages(4), 0);
        }
    }

    // ---- what is asked does not wear out

    static void promise31_askedTillTheLastCall() {
        LongRun run = LongRun.of(Edge.RICH);
        run.call().drive(2, 1);
        int[] due = {53, 4, 5, 0, 2, 0, 19, 1};
        while (run.left() > 0) {
            int what = run.left() % 8;
            Edge.due(run.call().count(what), due[what]);
        }
    }
}
