/** Promises 15 to 21: by what clause, worth in days, which to take, a beast each, shares, rings. */
final class LawEdges {
    private static final int OUTSIDE = Edge.OUTSIDE, UNKNOWN = Edge.UNKNOWN, NONE = Edge.NONE;
    private static final String FOUR = "VP00P00P00P00";

    private LawEdges() {
    }

    /** A beast of 0's that was shut in for 1 and died there; 0 owes 2 nothing. */
    private static PoundBeasts dead(int kind) {
        PoundBeasts x = Edge.made("VP00P00P00B01" + kind + "D019");
        Edge.days(x, 3);
        x.drive(1, 0);
        return Edge.days(x, 1);
    }

    // ---- promise 15

    static void promise15_noSuchPerson() {
        for (int person : Edge.beside(0, 3)) {
            for (int beast = 0; beast <= 4; beast++) {
                int known = beast;
                Edge.changesNothing(Edge::rich, UNKNOWN, x -> x.clause(person, known));
            }
        }
        Edge.changesNothing(() -> Edge.made("VP00P00B010"), UNKNOWN, x -> x.clause(2, 0));
        Edge.changesNothing(PoundBeasts::new, UNKNOWN, x -> x.clause(0, 0));
    }

    static void promise15_noSuchBeast() {
        for (int beast : Edge.beside(0, 4)) {
            for (int person = 0; person <= 3; person++) {
                int known = person;
                Edge.changesNothing(Edge::rich, UNKNOWN, x -> x.clause(known, beast));
            }
            Edge.changesNothing(Edge::rich, UNKNOWN, x -> x.clause(beast, beast));
        }
        Edge.changesNothing(() -> Edge.made("VP00P00B010"), UNKNOWN, x -> x.clause(1, 1));
        Edge.changesNothing(() -> Edge.made("VP00P00"), UNKNOWN, x -> x.clause(0, 0));
    }

    static void promise15_itsOwnOfEachKindInMarch() {
        for (int kind = 0; kind <= 3; kind++) {
            Edge.due(Edge.made("VP00P00B01" + kind + "D019").clause(0, 0), 1);
        }
    }

    static void promise15_itsOwnComesAheadOfDead() {
        Edge.due(dead(0).clause(0, 0), 1);
    }

    static void promise15_itsOwnComesAheadOfShutIn() {
        Edge.changesNothing(Edge::rich, 1, x -> x.clause(0, 0));
    }

    static void promise15_deadForEachOther() {
        Edge.due(dead(0).clause(1, 0), 2);
        Edge.due(dead(2).clause(1, 0), 2);
    }

    static void promise15_deadComesAheadOfNotOwed() {
        Edge.due(dead(0).clause(2, 0), 2);
    }

    static void promise15_deadComesAheadOfMarch() {
        PoundBeasts x = Edge.days(dead(1), 8);
        Edge.due(x.count(3), 12);
        Edge.due(x.clause(1, 0), 2);
    }

    static void promise15_shutInForItselfAndForAnother() {
        PoundBeasts x = Edge.made("VP00P00P00B090D019D029");
        x.drive(1, 0);
        Edge.due(x.clause(1, 0), 3);
        Edge.due(x.clause(2, 0), 3);
    }

    static void promise15_shutInComesAheadOfNotOwed() {
        Edge.changesNothing(Edge::rich, 3, x -> x.clause(3, 0));
    }

    static void promise15_shutInComesAheadOfMarch() {
        PoundBeasts x = Edge.made("VP90P00B091D019");
        Edge.days(x, 11);
        x.drive(1, 0);
        x.day();
        Edge.due(x.clause(1, 0), 3);
    }

    static void promise15_nothingIsOwedToThatOne() {
        Edge.due(Edge.made("VP00P00B090D109").clause(1, 0), 4);
        Edge.due(Edge.made("VP00P00P00B090D019").clause(2, 0), 4);
    }

    static void promise15_oneIsOwedToThatOne() {
        Edge.due(Edge.made("VP00P00B090D011").clause(1, 0), 0);
    }

    static void promise15_nothingIsOwedAnyMore() {
        PoundBeasts x = Edge.made("VP09P00B090D012");
        x.pay(0, 1, 1);
        Edge.due(x.clause(1, 0), 0);
        x.pay(0, 1, 1);
        Edge.due(x.clause(1, 0), 4);
    }

    static void promise15_notOwedComesAheadOfMarch() {
        Edge.due(Edge.made("VP00P00B091").clause(1, 0), 4);
    }

    static void promise15_notOwedComesAheadOfTheGuest() {
        Edge.due(Edge.made("VP00P00B093").clause(1, 0), 4);
    }

    static void promise15_anOxOnEachDayOfThreeYears() {
        PoundBeasts x = Edge.made("VP00P00B091D019");
        for (int day = 0; day < 36; day++) {
            boolean march = day % 12 == 0 || day % 12 == 1 || day % 12 == 2;
            Edge.due(x.clause(1, 0), march ? 5 : 0);
            x.day();
        }
    }

    static void promise15_onlyAnOxIsExemptInMarch() {
        Edge.due(Edge.made("VP00P00B090D019").clause(1, 0), 0);
        Edge.due(Edge.made("VP00P00B092D019").clause(1, 0), 0);
        Edge.due(Edge.made("VP00P00B093D019").clause(1, 0), 6);
    }

    static void promise15_aGuestInMarchAndBehindIt() {
        PoundBeasts x = Edge.made("VP00P00B093D019");
        Edge.due(x.clause(1, 0), 6);
        Edge.due(Edge.days(x, 3).clause(1, 0), 6);
    }

    static void promise15_clauseChangesNothing() {
        Edge.changesNothing(Edge::rich, 0, x -> x.clause(0, 4));
        Edge.changesNothing(Edge::rich, 6, x -> x.clause(1, 3));
        Edge.changesNothing(Edge::rich, 4, x -> x.clause(2, 4));
        Edge.changesNothing(Edge::late, 2, x -> x.clause(1, 1));
    }

    // ---- promise 16

    /** A beast of 0's that is shut in for 1. */
    private static PoundBeasts shutIn(int hay, int worth, int kind) {
        PoundBeasts x = Edge.made("VP" + hay + "0P00B0" + worth + kind + "D019");
        x.drive(1, 0);
        return x;
    }

    static void promise16_noSuchBeast() {
        for (int beast : Edge.beside(0, 4)) {
            Edge.changesNothing(Edge::rich, UNKNOWN, x -> x.worth(beast, 0));
            Edge.changesNothing(Edge::rich, UNKNOWN, x -> x.worth(beast, 9));
        }
        Edge.changesNothing(() -> Edge.made("VP00B010"), UNKNOWN, x -> x.worth(1, 0));
        Edge.changesNothing(PoundBeasts::new, UNKNOWN, x -> x.worth(0, 0));
    }

    static void promise16_nBelow0OrAbove9IsOutside() {
        for (int n : Edge.beside(0, 9)) {
            for (int beast = 0; beast <= 4; beast++) {
                int known = beast;
                Edge.changesNothing(Edge::rich, OUTSIDE, x -> x.worth(known, n));
            }
        }
    }

    static void promise16_unknownIsToldAheadOfOutside() {
        for (int beast : Edge.beside(0, 4)) {
            for (int n : Edge.beside(0, 9)) {
                Edge.changesNothing(Edge::rich, UNKNOWN, x -> x.worth(beast, n));
            }
        }
    }

    static void promise16_in0DaysItIsWorthWhatItIs() {
        Edge.changesNothing(() -> shutIn(0, 9, 0), 9, x -> x.worth(0, 0));
        Edge.changesNothing(() -> shutIn(0, 1, 2), 1, x -> x.worth(0, 0));
    }

    static void promise16_in9Days() {
        Edge.changesNothing(() -> shutIn(0, 9, 0), 0, x -> x.worth(0, 9));
        Edge.changesNothing(() -> shutIn(1, 9, 0), 1, x -> x.worth(0, 9));
        Edge.changesNothing(() -> shutIn(8, 9, 0), 8, x -> x.worth(0, 9));
        Edge.changesNothing(() -> shutIn(9, 9, 0), 9, x -> x.worth(0, 9));
    }

    static void promise16_eachDayOfACow() {
        for (int n = 0; n <= 9; n++) {
            Edge.due(shutIn(2, 5, 0).worth(0, n), n <= 2 ? 5 : Math.max(0, 7 - n));
        }
    }

    static void promise16_eachDayOfASheep() {
        for (int n = 0; n <= 9; n++) {
            Edge.due(shutIn(0, 9, 2).worth(0, n), Math.max(0, 9 - 2 * n));
            Edge.due(shutIn(0, 8, 2).worth(0, n), Math.max(0, 8 - 2 * n));
        }
    }

    static void promise16_atHomeItStaysSo() {
        Edge.due(Edge.made("VP00B070").worth(0, 9), 7);
        Edge.due(Edge.made("VP00B073").worth(0, 9), 7);
    }

    static void promise16_deadItIsWorth0() {
        Edge.changesNothing(Edge::late, 0, x -> x.worth(1, 0));
        Edge.changesNothing(Edge::late, 0, x -> x.worth(1, 9));
    }

    static void promise16_othersEatOfTheSameHay() {
        PoundBeasts x = Edge.made("VP50P00B090B010D019");
        x.drive(1, 0);
        x.drive(1, 1);
        Edge.due(x.worth(0, 3), 9);
        Edge.due(x.worth(1, 2), 1);
        Edge.due(x.worth(1, 3), 0);
        Edge.due(x.worth(0, 4), 8);
    }

    static void promise16_worthChangesNothing() {
        Edge.changesNothing(Edge::rich, 4, x -> x.worth(0, 2));
        Edge.changesNothing(Edge::rich, 0, x -> x.worth(2, 9));
        Edge.changesNothing(Edge::rich, 6, x -> x.worth(4, 9));
    }

    // ---- promise 17

    private static void taken(Edge.Scene scene, int person, int debtor, int which, int owed) {
        Edge.changesNothing(scene, which, x -> x.take(person, debtor, false));
        Edge.changesNothing(scene, owed, x -> x.take(person, debtor, true));
    }

    private static void taken(String text, int which, int owed) {
        taken(() -> Edge.made(text), 1, 0, which, owed);
    }

    static void promise17_noSuchPerson() {
        for (int person : Edge.beside(0, 3)) {
            for (int other = 0; other <= 3; other++) {
                taken(Edge::rich, person, other, UNKNOWN, UNKNOWN);
                taken(Edge::rich, other, person, UNKNOWN, UNKNOWN);
            }
        }
        taken(() -> Edge.made("VP00P00"), 0, 2, UNKNOWN, UNKNOWN);
        taken(PoundBeasts::new, 0, 1, UNKNOWN, UNKNOWN);
    }

    static void promise17_bothAreOne() {
        for (int person = 0; person <= 3; person++) {
            taken(Edge::rich, person, person, OUTSIDE, OUTSIDE);
        }
    }

    static void promise17_unknownIsToldAheadOfOutside() {
        for (int person : Edge.beside(0, 3)) {
            taken(Edge::rich, person, person, UNKNOWN, UNKNOWN);
        }
    }

    static void promise17_noBeastMayBeTaken() {
        taken("VP00P00D019", NONE, NONE);
        taken("VP00P00B093D019", NONE, NONE);
        taken("VP00P00B091D019", NONE, NONE);
        taken("VP00P00B190D019", NONE, NONE);
        taken("VP00P00B090D109", NONE, NONE);
    }

    static void promise17_whatIsShutInOrDeadMayNotBeTaken() {
        taken(() -> shutIn(9, 9, 0), 1, 0, NONE, NONE);
        taken(() -> dead(0), 1, 0, NONE, NONE);
    }

    static void promise17_marchIsAskedNow() {
        String ox = "VP90P00B051D019";
        taken(() -> Edge.days(Edge.made(ox), 2), 1, 0, NONE, NONE);
        taken(() -> Edge.days(Edge.made(ox), 3), 1, 0, 0, 4);
        taken(() -> Edge.days(Edge.made(ox), 11), 1, 0, 0, 4);
        taken(() -> Edge.days(Edge.made(ox), 12), 1, 0, NONE, NONE);
    }

    static void promise17_nothingIsOwedThenAtLeast() {
        taken("VP90P00B080D019", 0, 1);
        taken("VP90P00B090D019", 0, 0);
        taken("VP90P00B090D011", 0, 0);
    }

    static void promise17_hayForNoneOfTheDaysToAllOfThem() {
        taken("VP00P00B090D019", 0, 3);
        taken("VP10P00B090D019", 0, 2);
        taken("VP20P00B090D019", 0, 1);
        taken("VP30P00B090D019", 0, 0);
    }

    static void promise17_whatDiesWithinThreeDaysLeavesAllOwed() {
        taken("VP00P00B010D019", 0, 9);
        taken("VP00P00B030D019", 0, 9);
        taken("VP00P00B040D019", 0, 8);
        taken("VP00P00B062D019", 0, 9);
        taken("VP00P00B072D019", 0, 8);
    }

    static void promise17_thatByWhichLeastIsOwed() {
        taken("VP90P00B050B080B070D019", 1, 1);
        taken("VP00P00B092B080D019", 1, 4);
        taken("VP30P00B092B080D019", 0, 0);
    }

    static void promise17_ofLikeOnesThatWhichIsWorthLeastNow() {
        taken("VP90P00B090B080B070D017", 2, 0);
        taken("VP20P00B092B080D019", 1, 2);
        taken("VP00P00B092B060D019", 1, 6);
        taken("VP00P00B060B092D019", 0, 6);
        taken("VP00P00B030B010B020D019", 1, 9);
    }

    static void promise17_thenTheLeast() {
        taken("VP90P00B090B090B090D019", 0, 0);
        taken("VP90P00B090B080B080D018", 1, 0);
    }

    static void promise17_onlyTheDebtorsBeasts() {
        taken(() -> Edge.made("VP90P00P90B290B050D019D219"), 1, 0, 1, 4);
        taken(() -> Edge.made("VP90P00P90B290D019D219"), 1, 0, NONE, NONE);
        taken(() -> Edge.made("VP00P00P00B210B020D019D219"), 1, 0, 1, 9);
    }

    static void promise17_onlyWhatIsOwedToThatOne() {
        taken(() -> Edge.made("VP90P00P00B050D019D029"), 1, 0, 0, 4);
    }

    static void promise17_theLastOfAll() {
        taken(() -> Edge.made("VP00P00P00P90B390B390B390B390B320D321"), 2, 3, 4, 0);
        taken(() -> Edge.made("VP90P00P00P00B090D031"), 3, 0, 0, 0);
    }

    static void promise17_thoseThatAreShutInEatOfTheHay() {
        taken(() -> {
            PoundBeasts x = Edge.made("VP40P00B090B090D019");
            x.drive(1, 0);
            return x;
        }, 1, 0, 1, 1);
    }

    // ---- promise 18

    private static void each(Edge.Scene scene, int most, int way) {
        Edge.changesNothing(scene, most, x -> x.each(false));
        Edge.changesNothing(scene, way, x -> x.each(true));
    }

    private static void each(String text, int most, int way) {
        each(() -> Edge.made(text), most, way);
    }

    static void promise18_nobodyIsThere() {
        each(PoundBeasts::new, 0, 0);
        each("V", 0, 0);
    }

    static void promise18_nobodyCanGetOne() {
        each("VP00", 0, 0);
        each("VP00B090", 0, 0);
        each(FOUR + "D011D121", 0, 0);
        each(FOUR + "B093B191D019D129", 0, 0);
        each(() -> shutIn(9, 9, 0), 0, 0);
        each(() -> dead(0), 0, 0);
    }

    static void promise18_onlyOneCan() {
        each("VP00P00B010D011", 1, 1);
        each("VP00P00B110D101", 1, 10);
        each(FOUR + "B310D301", 1, 1000);
    }

    static void promise18_allFourCan() {
        each(FOUR + "B010B110B210B310D011D121D231D301", 4, 4123);
    }

    static void promise18_theLastBeastIsFigure5() {
        each("VP00P00B110B110B110B110B010D011", 1, 5);
        each(FOUR + "B110B110B110B110B010D031", 1, 5);
    }

    static void promise18_noBeastTwo() {
        each(FOUR + "B010D011D021D031", 1, 1);
        each(FOUR + "B010B010D011D021D031", 2, 12);
    }

    static void promise18_noPersonTwo() {
        each("VP00P00B010B010B010B010B010D011", 1, 1);
    }

    static void promise18_mostComesAheadOfTheLeast() {
        each(FOUR + "B010B110D011D021D031D129", 2, 21);
    }

    static void promise18_theFirstWayIsTheLeastAsANumber() {
        each(FOUR + "B010B010B010D011D021D031", 3, 123);
        each(FOUR + "B010B110D021D031D121D131", 2, 12);
    }

    static void promise18_whoMustTakeAnotherMakesRoom() {
        each(FOUR + "B010B310D011D021D311", 2, 210);
    }

    // ---- promise 19

    private static void share(Edge.Scene scene, int person, int above, int below) {
        Edge.changesNothing(scene, above, x -> x.share(person, true));
        Edge.changesNothing(scene, below, x -> x.share(person, false));
    }

    private static void share(String text, int person, int above, int below) {
        share(() -> Edge.made(text), person, above, below);
    }

    static void promise19_noSuchPersonIsToldAboveAndBelow() {
        for (int person : Edge.beside(0, 3)) {
            share(Edge::rich, person, UNKNOWN, UNKNOWN);
        }
        share("VP00P00", 2, UNKNOWN, UNKNOWN);
        share(PoundBeasts::new, 0, UNKNOWN, UNKNOWN);
    }

    static void promise19_nothingIs0Of1() {
        share("VP00", 0, 0, 1);
        share("VP00P00B010D011", 0, 0, 1);
        share(FOUR + "B013D011D021D031", 3, 0, 1);
    }

    static void promise19_alwaysOneMoreIs1Of1() {
        share("VP00P00B010D011", 1, 1, 1);
        share(FOUR + "B010B110B210B310D011D121D231D301", 2, 1, 1);
    }

    static void promise19_halvesThirdsInLeastTerms() {
        share("VP00P00P00B010D011D021", 1, 1, 2);
        share(FOUR + "B010D011D021", 2, 1, 2);
        share(FOUR + "B010D011D021D031", 3, 1, 3);
        share(FOUR + "B010B010D011D021D031", 1, 2, 3);
    }

    static void promise19_twelfths() {
        String text = FOUR + "B010B110D011D021D031D131D101";
        share(text, 0, 7, 12);
        share(text, 1, 5, 12);
        share(text, 2, 5, 12);
        share(text, 3, 7, 12);
    }

    static void promise19_allSharesTogetherAreMost() {
        share(FOUR + "B010B010B010B010B010D011D021D031", 1, 1, 1);
        share(FOUR + "B010B010B010B010B010D011D021D031", 0, 0, 1);
    }

    // ---- promises 20 and 21

    private static void ring(Edge.Scene scene, int person, int ring, int close) {
        Edge.changesNothing(scene, ring, x -> x.ring(person));
        Edge.changesNothing(scene, close, x -> x.close(person));
    }

    private static void ring(String text, int person, int ring, int close) {
        ring(() -> Edge.made(text), person, ring, close);
    }

    static void promise20_noSuchPerson() {
        for (int person : Edge.beside(0, 3)) {
            Edge.changesNothing(Edge::rich, UNKNOWN, x -> x.ring(person));
        }
        Edge.changesNothing(() -> Edge.made("VP00P00D011D101"), UNKNOWN, x -> x.ring(2));
        Edge.changesNothing(PoundBeasts::new, UNKNOWN, x -> x.ring(0));
    }

    static void promise20_noRing() {
        ring("VP00", 0, NONE, NONE);
        ring("VP00P00D019", 0, NONE, NONE);
        ring("VP00P00D019", 1, NONE, NONE);
        ring(FOUR + "D019D129D239", 0, NONE, NONE);
    }

    static void promise20_aRingOfOthersIsNotItsOwn() {
        ring(FOUR + "D019D129D219", 0, NONE, NONE);
        ring(FOUR + "D129D219D109", 0, NONE, NONE);
        ring(FOUR + "D019D129D219D239", 3, NONE, NONE);
    }

    static void promise20_twoThreeAndFourPeople() {
        ring(FOUR + "D039D308", 3, 41, 8);
        ring(FOUR + "D139D327D218", 1, 243, 7);
        ring(FOUR + "D039D329D219D108", 0, 1432, 8);
    }

    static void promise20_thatOneIsToldFirst() {
        for (int person = 0; person <= 3; person++) {
            int[] rings = {1234, 2341, 3412, 4123};
            ring(FOUR + "D011D122D233D304", person, rings[person], 1);
        }
    }

    static void promise20_fewestPeople() {
        ring(FOUR + "D019D129D209D039D309", 0, 14, 9);
        ring(FOUR + "D019D129D239D309D209", 0, 123, 9);
    }

    static void promise20_ofLikeOnesTheLeastAsANumber() {
        ring(FOUR + "D039D027D019D301D202D103", 0, 12, 3);
        ring(FOUR + "D039D319D028D218D105", 0, 132, 5);
        ring(FOUR + "D019D129D139D209D309", 0, 123, 9);
    }

    static void promise20_whatIsPaidIsInNoRing() {
        ring(() -> {
            PoundBeasts x = Edge.made("VP09P00D011D109");
            x.pay(0, 1, 1);
            return x;
        }, 0, NONE, NONE);
    }

    static void promise21_noSuchPerson() {
        for (int person : Edge.beside(0, 3)) {
            Edge.changesNothing(Edge::rich, UNKNOWN, x -> x.close(person));
        }
        Edge.changesNothing(() -> Edge.made("VP00P00D011D101"), UNKNOWN, x -> x.close(2));
        Edge.changesNothing(PoundBeasts::new, UNKNOWN, x -> x.close(0));
    }

    static void promise21_noRing() {
        Edge.changesNothing(() -> Edge.made("VP00P00D019"), NONE, x -> x.close(0));
        Edge.changesNothing(() -> Edge.made(FOUR + "D019D129D219"), NONE, x -> x.close(0));
    }

    static void promise21_theLeastMayStandAnywhere() {
        for (int least = 0; least <= 3; least++) {
            int[] owed = {9, 9, 9, 9};
            owed[least] = 1;
            String text = FOUR + "D01" + owed[0] + "D12" + owed[1] + "D23" + owed[2] + "D30" + owed[3];
            Edge.changesNothing(() -> Edge.made(text), 1, x -> x.close(0));
        }
    }

    static void promise21_99AtMost() {
        PoundBeasts x = Edge.made("VP00P00B093B193D011D101");
        for (int i = 0; i < 11; i++) {
            x.drive(1, 0);
            x.drive(0, 1);
        }
        Edge.due(x.ring(0), 12);
        Edge.due(x.close(0), 99);
    }

    static void promise21_ofItsRingAlone() {
        Edge.changesNothing(() -> Edge.made(FOUR + "D014D105D021D121D201"), 4, x -> x.close(0));
    }
}
