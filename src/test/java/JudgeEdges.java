/** Promises 22 to 24: what can be, one thing behind the other; who may have driven what. */
final class JudgeEdges {
    private static final int OUTSIDE = Edge.OUTSIDE, NONE = Edge.NONE;
    private static final String FOUR = "VP00P00P00P00";

    private JudgeEdges() {
    }

    private static void judged(Edge.Scene scene, int n, long row, int want) {
        Edge.changesNothing(scene, want, x -> x.judge(n, row));
    }

    /** A cow, a guest and an ox of 0's, who owes 1 and 2; it is MARCH. */
    private static PoundBeasts march() {
        return Edge.made("VP90P00P00B050B053B051D019D021");
    }

    /** The cow is shut in for 1, for so many days. */
    private static PoundBeasts shutIn(int days) {
        PoundBeasts x = march();
        x.drive(1, 0);
        return Edge.days(x, days);
    }

    // ---- promise 22

    static void promise22_nBelow1OrAbove4IsOutside() {
        for (int n : Edge.beside(1, 4)) {
            judged(Edge::rich, n, 0, OUTSIDE);
            judged(Edge::rich, n, 3, OUTSIDE);
            judged(PoundBeasts::new, n, 3, OUTSIDE);
        }
    }

    static void promise22_aRowBelow0IsOutside() {
        for (int n = 1; n <= 4; n++) {
            judged(Edge::rich, n, -1, OUTSIDE);
            judged(Edge::rich, n, -1000, OUTSIDE);
            judged(Edge::rich, n, Integer.MIN_VALUE, OUTSIDE);
            judged(Edge::rich, n, Long.MIN_VALUE, OUTSIDE);
        }
    }

    static void promise22_aRowOfMoreFiguresIsOutside() {
        long least = 1;
        for (int n = 1; n <= 4; n++) {
            least *= 1000;
            judged(Edge::rich, n, least, OUTSIDE);
            judged(Edge::rich, n, least + 3, OUTSIDE);
            judged(Edge::rich, n, Long.MAX_VALUE, OUTSIDE);
        }
    }

    // Its lower 32 bits alone would tell a day.
    static void promise22_aRowIsALong() {
        judged(Edge::rich, 1, (1L << 32) + 3, OUTSIDE);
        judged(Edge::rich, 2, (1L << 32) + 3, OUTSIDE);
        judged(Edge::rich, 4, (1L << 32) + 3, 0);
    }

    static void promise22_aRowOfAllItsFigures() {
        long most = 1;
        for (int n = 1; n <= 4; n++) {
            most *= 1000;
            judged(Edge::rich, n, most - 1, 0);
        }
    }

    static void promise22_theRowMayBe0() {
        for (int n = 1; n <= 4; n++) {
            judged(Edge::rich, n, 0, 0);
        }
    }

    static void promise22_oneToFourDaysCanBe() {
        long row = 0;
        for (int n = 1; n <= 4; n++) {
            row = row * 1000 + 3;
            judged(Edge::rich, n, row, NONE);
            judged(PoundBeasts::new, n, row, NONE);
        }
    }

    static void promise22_theFirstThatCanNotBeAtEachPlace() {
        judged(JudgeEdges::march, 4, 110_003_003_003L, 0);
        judged(JudgeEdges::march, 4, 3_110_003_003L, 1);
        judged(JudgeEdges::march, 4, 3_003_110_003L, 2);
        judged(JudgeEdges::march, 4, 3_003_003_110L, 3);
        judged(JudgeEdges::march, 4, 3_003_003_003L, NONE);
    }

    static void promise22_ofTwoThatCanNotBeTheFirst() {
        judged(JudgeEdges::march, 4, 3_110_110_110L, 1);
        judged(JudgeEdges::march, 3, 999_110_999L, 0);
    }

    static void promise22_eachGoesOnFromTheOneAhead() {
        judged(JudgeEdges::march, 2, 210_011L, NONE);
        judged(JudgeEdges::march, 3, 3_210_011L, NONE);
    }

    static void promise22_drivenByEachOtherClauseCanNotBe() {
        judged(JudgeEdges::march, 1, 110, 0);
        judged(Edge::late, 1, 220, 0);
        judged(() -> shutIn(0), 1, 310, 0);
        judged(() -> Edge.made("VP00P00B010"), 1, 210, 0);
        judged(JudgeEdges::march, 1, 230, 0);
        judged(JudgeEdges::march, 1, 220, 0);
    }

    static void promise22_anOxOnTheLastDayOfMarchAndTheDayBehind() {
        judged(JudgeEdges::march, 3, 3_003_230L, 2);
        judged(JudgeEdges::march, 4, 3_003_003_230L, NONE);
        judged(() -> Edge.days(march(), 11), 1, 230, NONE);
        judged(() -> Edge.days(march(), 11), 2, 3_230, 1);
    }

    static void promise22_nobodyAndNothingCanNotBeDriven() {
        judged(JudgeEdges::march, 1, 10, 0);
        judged(JudgeEdges::march, 1, 200, 0);
    }

    static void promise22_thereIsNoSuchPerson() {
        judged(JudgeEdges::march, 1, 410, 0);
        judged(Edge::rich, 1, 550, 0);
        judged(Edge::rich, 1, 910, 0);
        judged(PoundBeasts::new, 1, 110, 0);
    }

    static void promise22_thereIsNoSuchBeast() {
        for (int thing : new int[] {240, 41, 42, 290, 91, 92, 1, 2}) {
            judged(JudgeEdges::march, 1, thing, 0);
        }
        judged(Edge::rich, 1, 260, 0);
    }

    static void promise22_theLastPersonAndTheLastBeast() {
        judged(() -> Edge.made(FOUR + "B010B010B010B010B010D031"), 1, 450, NONE);
        judged(() -> Edge.made(FOUR + "B010B010B010B010B010D031"), 2, 450_051, NONE);
    }

    static void promise22_drivenTwiceCanNotBe() {
        judged(JudgeEdges::march, 2, 210_210, 1);
        judged(JudgeEdges::march, 2, 210_310, 1);
    }

    static void promise22_brokenOutOnlyIfItIsShutIn() {
        judged(JudgeEdges::march, 1, 11, 0);
        judged(() -> shutIn(0), 1, 11, NONE);
        judged(() -> shutIn(0), 2, 11_011, 1);
        judged(Edge::late, 1, 21, 0);
    }

    static void promise22_brokenOutItMayBeDrivenAgain() {
        judged(() -> shutIn(0), 4, 11_310_011_210L, NONE);
    }

    static void promise22_brokenOutMakesADebtThatWasGone() {
        Edge.Scene nothingOwed = () -> {
            PoundBeasts x = Edge.made("VP90P00B090B060B050D013");
            x.drive(1, 0);
            x.drive(1, 1);
            Edge.days(x, 3).forfeit(0);
            return x;
        };
        judged(nothingOwed, 1, 230, 0);
        judged(nothingOwed, 4, 21_230_031_220L, NONE);
    }

    static void promise22_keptFrom3DaysOn() {
        judged(() -> shutIn(0), 4, 3_003_012_003L, 2);
        judged(() -> shutIn(0), 4, 3_003_003_012L, NONE);
        judged(() -> shutIn(2), 1, 12, 0);
        judged(() -> shutIn(3), 1, 12, NONE);
        judged(() -> shutIn(3), 2, 12_012, 1);
        judged(JudgeEdges::march, 1, 12, 0);
    }

    static void promise22_deadByThenItCanNotBeKept() {
        judged(() -> {
            PoundBeasts x = Edge.made("VP00P00B030D019");
            x.drive(1, 0);
            return x;
        }, 4, 3_003_003_012L, 3);
    }

    static void promise22_keptTheDebtIsLess() {
        Edge.Scene oneKept = () -> {
            PoundBeasts x = Edge.made("VP90P00B050B010D015");
            x.drive(1, 0);
            return Edge.days(x, 3);
        };
        judged(oneKept, 2, 12_220, 1);
        judged(oneKept, 1, 220, NONE);
        judged(oneKept, 2, 12_210, 1);
    }

    static void promise22_aLastFigureAbove3TellsNothing() {
        for (int figure = 4; figure <= 9; figure++) {
            judged(JudgeEdges::march, 1, figure, 0);
            judged(JudgeEdges::march, 1, 210 + figure, 0);
            judged(() -> shutIn(3), 1, 10 + figure, 0);
        }
    }

    static void promise22_figuresThatMustBe0() {
        for (int figure = 1; figure <= 9; figure++) {
            judged(JudgeEdges::march, 1, 100 * figure + 3, 0);
            judged(JudgeEdges::march, 1, 10 * figure + 3, 0);
            judged(() -> shutIn(3), 1, 100 * figure + 11, 0);
            judged(() -> shutIn(3), 1, 100 * figure + 12, 0);
        }
    }

    // ---- promise 23

    private static void who(Edge.Scene scene, int beasts, int want) {
        Edge.changesNothing(scene, want, x -> x.who(beasts));
    }

    static void promise23_bitsOfNoBeastsAreOutside() {
        for (int beasts : new int[] {-1, 32, 33, 63, Integer.MIN_VALUE, Integer.MAX_VALUE, 1 << 30}) {
            who(Edge::rich, beasts, OUTSIDE);
        }
        for (int beasts : new int[] {-1, 2, 3, Integer.MIN_VALUE, Integer.MIN_VALUE + 1, Integer.MAX_VALUE}) {
            who(() -> Edge.made("VP00P00B010D011"), beasts, OUTSIDE);
        }
        who(() -> Edge.made("VP00P00"), 1, OUTSIDE);
        who(PoundBeasts::new, 1, OUTSIDE);
        who(PoundBeasts::new, -1, OUTSIDE);
    }

    static void promise23_noBeastsAskedForEveryoneMay() {
        who(Edge::rich, 0, 15);
        who(() -> Edge.made("VP00"), 0, 1);
        who(() -> Edge.made("VP00P00P00"), 0, 7);
    }

    static void promise23_noBeastsAndNobody() {
        who(PoundBeasts::new, 0, 0);
        who(() -> Edge.made("V"), 0, 0);
    }

    static void promise23_allBeastsAskedFor() {
        who(() -> Edge.made(FOUR + "B010B010B010B010B010D011D031"), 31, 10);
        who(() -> Edge.made(FOUR + "B010B010B110B010B010D011D031"), 31, 0);
        who(() -> Edge.made(FOUR + "B010B010B110B010B010D011D031D139"), 31, 8);
    }

    static void promise23_eachByOneAlone() {
        Edge.Scene scene = () -> Edge.made(FOUR + "B010B110D011D021D121D131");
        who(scene, 1, 6);
        who(scene, 2, 12);
        who(scene, 3, 4);
    }

    static void promise23_nobodyMay() {
        who(() -> Edge.made("VP00P00B013B011B010D109"), 1, 0);
        who(() -> Edge.made("VP00P00B013B011D019"), 1, 0);
        who(() -> Edge.made("VP00P00B013B011D019"), 2, 0);
        who(Edge::late, 1, 0);
        who(Edge::late, 2, 0);
        who(Edge::late, 15, 0);
    }

    static void promise23_anOxBehindMarch() {
        who(() -> Edge.days(Edge.made("VP00P00B013B011D019"), 2), 2, 0);
        who(() -> Edge.days(Edge.made("VP00P00B013B011D019"), 3), 2, 2);
    }

    // ---- promise 24

    private static void suspects(Edge.Scene scene, int beasts, int sets, int inAll, int inNone) {
        Edge.changesNothing(scene, sets, x -> x.suspects(beasts, 0));
        Edge.changesNothing(scene, inAll, x -> x.suspects(beasts, 1));
        Edge.changesNothing(scene, inNone, x -> x.suspects(beasts, 2));
    }

    private static void suspects(String text, int beasts, int sets, int inAll, int inNone) {
        suspects(() -> Edge.made(text), beasts, sets, inAll, inNone);
    }

    static void promise24_bitsOfNoBeastsAreOutside() {
        for (int beasts : new int[] {-1, 32, 33, 63, Integer.MIN_VALUE, Integer.MAX_VALUE, 1 << 30}) {
            suspects(Edge::rich, beasts, OUTSIDE, OUTSIDE, OUTSIDE);
        }
        suspects("VP00P00B010D011", 2, OUTSIDE, OUTSIDE, OUTSIDE);
        suspects("VP00P00", 1, OUTSIDE, OUTSIDE, OUTSIDE);
        suspects(PoundBeasts::new, 1, OUTSIDE, OUTSIDE, OUTSIDE);
    }

    static void promise24_whatBelow0OrAbove2IsOutside() {
        for (int what : Edge.beside(0, 2)) {
            for (int beasts : new int[] {0, 2, 31, 32, -1}) {
                Edge.changesNothing(Edge::rich, OUTSIDE, x -> x.suspects(beasts, what));
            }
        }
    }

    static void promise24_noBeastsAskedForNobodyIsInTheOneSet() {
        suspects(FOUR + "B010D011", 0, 1, 0, 15);
        suspects("VP00", 0, 1, 0, 1);
    }

    static void promise24_noBeastsAndNobody() {
        suspects(PoundBeasts::new, 0, 1, 0, 0);
        suspects("V", 0, 1, 0, 0);
    }

    static void promise24_noSet() {
        suspects("VP00P00B010", 1, 0, NONE, NONE);
        suspects("VP00P00B013D019", 1, 0, NONE, NONE);
        suspects("VP00P00B011D019", 1, 0, NONE, NONE);
        suspects("VP00P00B010B110D019", 3, 0, NONE, NONE);
        suspects(Edge::late, 2, 0, NONE, NONE);
        suspects(Edge::late, 1, 0, NONE, NONE);
    }

    static void promise24_oneSet() {
        suspects("VP00P00B010D019", 1, 1, 2, 1);
        suspects("VP00P00B010B110D019D109", 3, 1, 3, 0);
    }

    static void promise24_allBeastsAskedFor() {
        suspects(FOUR + "B010B010B010B010B010D011D021D031", 31, 7, 0, 1);
        suspects(FOUR + "B010B110B210B310D011D121D231D301", 15, 1, 15, 0);
    }

    static void promise24_whoMayTakeNoneOfThemIsInNone() {
        suspects(FOUR + "B010B110D011D021D129D131", 1, 3, 0, 9);
        suspects(FOUR + "B010B110D011D021D129D131", 2, 3, 0, 3);
    }

    static void promise24_whoAloneMayTakeOneIsInAll() {
        suspects("VP00P00P00B010B110D011D021D129", 3, 2, 4, 1);
    }

    static void promise24_eachBeastByOneAtLeast() {
        suspects(FOUR + "B010B110D011D021D129D131", 3, 5, 0, 1);
    }
}
