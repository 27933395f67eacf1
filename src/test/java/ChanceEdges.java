import java.math.BigInteger;

/** Promises 25 to 28: an owner and a creditor at rest, chances, the seed, villages by it. */
final class ChanceEdges {
    private static final int OUTSIDE = Edge.OUTSIDE, UNKNOWN = Edge.UNKNOWN, NONE = Edge.NONE;
    private static final long[] SEEDS = {0, 1, -1, Long.MIN_VALUE, Long.MAX_VALUE, Long.MIN_VALUE + 1, 1L << 32};

    private ChanceEdges() {
    }

    // ---- promise 25

    private static void rests(Edge.Scene scene, int owner, int creditor, int howMany, int first) {
        Edge.changesNothing(scene, howMany, x -> x.rests(owner, creditor, 0));
        Edge.changesNothing(scene, first, x -> x.rests(owner, creditor, 1));
    }

    private static void rests(String text, int howMany, int first) {
        rests(() -> Edge.made(text), 0, 1, howMany, first);
    }

    static void promise25_noSuchPerson() {
        for (int person : Edge.beside(0, 3)) {
            for (int other = 0; other <= 3; other++) {
                rests(Edge::rich, person, other, UNKNOWN, UNKNOWN);
                rests(Edge::rich, other, person, UNKNOWN, UNKNOWN);
            }
        }
        rests(() -> Edge.made("VP00P00D019"), 0, 2, UNKNOWN, UNKNOWN);
        rests(PoundBeasts::new, 0, 1, UNKNOWN, UNKNOWN);
    }

    static void promise25_bothAreOne() {
        for (int person = 0; person <= 3; person++) {
            rests(Edge::rich, person, person, OUTSIDE, OUTSIDE);
        }
    }

    static void promise25_whatBelow0OrAbove1IsOutside() {
        for (int what : Edge.beside(0, 1)) {
            Edge.changesNothing(Edge::rich, OUTSIDE, x -> x.rests(0, 1, what));
            Edge.changesNothing(Edge::rich, OUTSIDE, x -> x.rests(0, 0, what));
        }
    }

    static void promise25_unknownIsToldAheadOfOutside() {
        for (int person : Edge.beside(0, 3)) {
            for (int what : Edge.beside(0, 1)) {
                Edge.changesNothing(Edge::rich, UNKNOWN, x -> x.rests(person, person, what));
                Edge.changesNothing(Edge::rich, UNKNOWN, x -> x.rests(0, person, what));
                Edge.changesNothing(Edge::rich, UNKNOWN, x -> x.rests(person, 0, what));
            }
        }
    }

    static void promise25_outsideIsToldAheadOfNone() {
        for (int what : Edge.beside(0, 1)) {
            Edge.changesNothing(Edge::rich, OUTSIDE, x -> x.rests(0, 3, what));
        }
    }

    static void promise25_theOwnerOwesNothing() {
        rests("VP99P99B090", NONE, NONE);
        rests("VP99P99B090B190D109", NONE, NONE);
        rests(Edge::rich, 1, 2, NONE, NONE);
    }

    static void promise25_theOwnerHasNoBeast() {
        for (int owed = 1; owed <= 9; owed++) {
            rests("VP00P00B190D01" + owed, 1, 0);
        }
    }

    static void promise25_noBeastMayBeTakenNow() {
        rests("VP00P00B093B091D019", 1, 0);
        rests(() -> {
            PoundBeasts x = Edge.made("VP90P00B090D019");
            x.drive(1, 0);
            return x;
        }, 0, 1, 1, 0);
        rests(Edge::late, 0, 1, 1, 0);
    }

    static void promise25_beastsOfOtherDebtorsAreNotDriven() {
        rests(() -> Edge.made("VP00P00P00B290D019D219"), 0, 1, 1, 0);
        rests(() -> Edge.made("VP00P00P00B290B030D019D219"), 0, 1, 1, 2);
    }

    static void promise25_anOxBehindMarch() {
        rests(() -> Edge.days(Edge.made("VP00P00B091D019"), 2), 0, 1, 1, 0);
        rests(() -> Edge.days(Edge.made("VP00P00B091D019"), 3), 0, 1, 1, 1);
    }

    static void promise25_threeAtMostArePaid() {
        rests("VP00P00B090D013", 0, NONE);
        rests("VP00P00B090D014", 1, 1);
    }

    static void promise25_noMoreIsPaidThanIsOwed() {
        rests("VP00P00B090D011", 1, 0);
        rests("VP00P00B090D012", 0, NONE);
        rests("VP00P00B010D011", 2, 0);
    }

    static void promise25_asIfItHadThem() {
        rests("VP00P00B090D013", 0, NONE);
        rests("VP09P09B090D013", 0, NONE);
    }

    static void promise25_costingAsMuchAsAllThatIsOwedItRests() {
        rests("VP00P00B030D013", 1, 1);
        rests("VP00P00B040D013", 0, NONE);
        rests("VP00P00B020D012", 1, 1);
        rests("VP00P00B030D012", 0, NONE);
        rests("VP00P00B010D011", 2, 0);
        rests("VP00P00B020D011", 1, 0);
    }

    static void promise25_worth1ABeastBringsNothing() {
        rests("VP00P00B010D019", 2, 0);
        rests("VP00P00B020D019", 1, 1);
    }

    static void promise25_noMoreThanIsStillOwedIsBrought() {
        rests("VP00P00B050B090D014", 2, 1);
        rests("VP00P00B050B090D015", 2, 1);
        rests("VP00P00B050B090D016", 1, 2);
    }

    static void promise25_theLastBeastIsChoice5() {
        rests("VP00P00B190B190B190B190B090D019", 1, 5);
        rests("VP00P00B010B010B010B010B090D019", 1, 5);
    }

    static void promise25_allFiveAndNone() {
        rests("VP00P00B090B090B090B090B090D019", 5, 1);
        rests("VP00P00B010B010B010B010B010D019", 6, 0);
    }

    static void promise25_99AreOwed() {
        rests(() -> {
            PoundBeasts x = Edge.made("VP00P00B093B190B140D019");
            for (int i = 0; i < 11; i++) {
                x.drive(1, 0);
            }
            return x;
        }, 1, 0, 1, 2);
    }

    // ---- promise 26

    private static void chance(Edge.Scene scene, int m, int x, int above, int below) {
        Edge.changesNothing(scene, above, made -> made.chance(m, x, true));
        Edge.changesNothing(scene, below, made -> made.chance(m, x, false));
    }

    /** So many of five beasts are shut in. */
    private static Edge.Scene shutIn(int beasts) {
        return () -> {
            PoundBeasts x = Edge.made("VP90P00B050B050B050B050B050D019");
            for (int beast = 0; beast < beasts; beast++) {
                x.drive(1, beast);
            }
            return x;
        };
    }

    static void promise26_mBelow0OrAbove5IsOutsideAboveAndBelow() {
        for (int m : Edge.beside(0, 5)) {
            for (int x : new int[] {0, 5, 10}) {
                chance(Edge::rich, m, x, OUTSIDE, OUTSIDE);
                chance(PoundBeasts::new, m, x, OUTSIDE, OUTSIDE);
                chance(shutIn(5), m, x, OUTSIDE, OUTSIDE);
            }
        }
    }

    static void promise26_xBelow0OrAbove10IsOutsideAboveAndBelow() {
        for (int x : Edge.beside(0, 10)) {
            for (int m = 0; m <= 5; m++) {
                chance(Edge::rich, m, x, OUTSIDE, OUTSIDE);
                chance(PoundBeasts::new, m, x, OUTSIDE, OUTSIDE);
            }
        }
    }

    static void promise26_moreThanAreShutInIs0Of1() {
        for (int shut = 0; shut <= 4; shut++) {
            for (int m = shut + 1; m <= 5; m++) {
                chance(shutIn(shut), m, 0, 0, 1);
                chance(shutIn(shut), m, 5, 0, 1);
                chance(shutIn(shut), m, 10, 0, 1);
            }
        }
    }

    static void promise26_noneShutInNoneBreaksOut() {
        for (int x = 0; x <= 10; x++) {
            chance(PoundBeasts::new, 0, x, 1, 1);
            chance(shutIn(0), 0, x, 1, 1);
        }
    }

    static void promise26_by0TenthsNoneBreaksOut() {
        for (int shut = 0; shut <= 5; shut++) {
            for (int m = 0; m <= 5; m++) {
                chance(shutIn(shut), m, 0, m == 0 ? 1 : 0, 1);
            }
        }
    }

    static void promise26_by10TenthsAllBreakOut() {
        for (int shut = 0; shut <= 5; shut++) {
            for (int m = 0; m <= 5; m++) {
                chance(shutIn(shut), m, 10, m == shut ? 1 : 0, 1);
            }
        }
    }

    static void promise26_by1TenthAndBy9() {
        chance(shutIn(1), 1, 1, 1, 10);
        chance(shutIn(1), 1, 9, 9, 10);
        chance(shutIn(5), 5, 1, 1, 100000);
        chance(shutIn(5), 5, 9, 59049, 100000);
        chance(shutIn(5), 0, 1, 59049, 100000);
        chance(shutIn(5), 1, 1, 6561, 20000);
        chance(shutIn(5), 4, 1, 9, 20000);
    }

    static void promise26_inLeastTerms() {
        chance(shutIn(1), 0, 4, 3, 5);
        chance(shutIn(2), 1, 5, 1, 2);
        chance(shutIn(3), 1, 5, 3, 8);
        chance(shutIn(5), 2, 5, 5, 16);
        chance(shutIn(5), 1, 2, 256, 625);
        chance(shutIn(5), 2, 3, 3087, 10000);
    }

    static void promise26_whatIsDeadOrAtHomeDoesNotCount() {
        chance(Edge::late, 2, 5, 1, 4);
        chance(Edge::late, 3, 5, 0, 1);
        chance(Edge::rich, 2, 5, 1, 4);
    }

    // ---- promise 27

    static void promise27_eachLongIsASeed() {
        for (long seed : SEEDS) {
            PoundBeasts x = new PoundBeasts();
            Edge.due(x.seed(seed), 0);
            Edge.due(x.seed(-7), seed);
            Edge.due(x.seed(0), -7);
        }
    }

    static void promise27_nothingElseChanges() {
        String before = Edge.image(Edge::rich);
        for (long seed : SEEDS) {
            Edge.same(Edge.image(() -> {
                PoundBeasts x = Edge.rich();
                Edge.due(x.seed(seed), -77);
                x.seed(-77);
                return x;
            }), before);
        }
    }

    // ---- promise 28

    private static long next(long seed) {
        BigInteger product = BigInteger.valueOf(seed).multiply(new BigInteger("6364136223846793005"));
        return product.add(new BigInteger("1442695040888963407")).longValue();
    }

    private static long after(long seed, int times) {
        long at = seed;
        for (int i = 0; i < times; i++) {
            at = next(at);
        }
        return at;
    }

    private static int drawn(long value) {
        BigInteger bits = BigInteger.valueOf(value).mod(BigInteger.ONE.shiftLeft(64)).shiftRight(33);
        return bits.mod(BigInteger.valueOf(30)).intValue();
    }

    /** A seed whose number of this place is the one wanted, drawn from a value of this sign. */
    private static long drawing(int wanted, int place, boolean below0) {
        long seed = 1000L * wanted;
        while (drawn(after(seed, place)) != wanted || after(seed, place) < 0 != below0) {
            seed++;
        }
        return seed;
    }

    private static int villages(String text, long seed, int m) {
        PoundBeasts x = Edge.made(text);
        x.seed(seed);
        return x.villages(m);
    }

    static void promise28_mBelow1OrAbove30IsOutside() {
        for (int m : Edge.beside(1, 30)) {
            Edge.changesNothing(Edge::rich, OUTSIDE, x -> x.villages(m));
            Edge.changesNothing(Edge::late, OUTSIDE, x -> x.villages(m));
            Edge.changesNothing(PoundBeasts::new, OUTSIDE, x -> x.villages(m));
        }
    }

    static void promise28_theSeedWrapsFromBothEndsOfALong() {
        for (long seed : SEEDS) {
            for (int m : new int[] {1, 2, 29, 30}) {
                PoundBeasts x = Edge.rich();
                x.seed(seed);
                x.villages(m);
                Edge.due(x.seed(0), after(seed, m));
            }
        }
    }

    static void promise28_withNobodyNothingIsOwed() {
        PoundBeasts x = new PoundBeasts();
        Edge.due(x.villages(1), 0);
        Edge.due(x.villages(30), 0);
        Edge.due(x.seed(0), after(0, 31));
    }

    static void promise28_nothingChangesButTheSeed() {
        for (int m : new int[] {1, 30}) {
            Edge.same(Edge.image(() -> {
                PoundBeasts x = Edge.rich();
                x.villages(m);
                Edge.due(x.seed(-77), after(-77, m));
                return x;
            }), Edge.image(Edge::rich));
        }
    }

    // What is driven in the first of three rounds is kept at their end, what is driven later is not.
    static void promise28_eachNumberDrawnIsAPersonAndABeast() {
        for (int person = 0; person <= 3; person++) {
            int owner = person == 0 ? 1 : 0;
            String text = "VP90P90P90P90B#40B#40B#40B#40B#40D#".replace("#", "" + owner) + person + "9";
            for (int number = 0; number < 30; number++) {
                boolean driven = number / 6 == person && number % 6 <= 4;
                Edge.due(villages(text, drawing(number, 1, false), 3), driven ? 5 : 9);
                Edge.due(villages(text, drawing(number, 1, true), 3), driven ? 5 : 9);
            }
        }
    }

    static void promise28_personsAndBeastsThatAreNotThere() {
        String text = "VP90P00B040D019";
        for (int number = 0; number < 30; number++) {
            Edge.due(villages(text, drawing(number, 1, true), 3), number == 6 ? 5 : 9);
        }
    }

    static void promise28_keptBehindTheThirdDay() {
        long seed = drawing(6, 1, false);
        Edge.due(villages("VP90P00B040D019", seed, 1), 9);
        Edge.due(villages("VP90P00B040D019", seed, 2), 9);
        Edge.due(villages("VP90P00B040D019", seed, 3), 5);
        Edge.due(villages("VP90P00B040D019", seed, 30), 5);
    }

    static void promise28_whatWasShutInAlreadyIsKeptToo() {
        for (int days = 0; days <= 5; days++) {
            PoundBeasts x = Edge.made("VP90P00B040D019");
            x.drive(1, 0);
            Edge.days(x, days);
            Edge.due(x.villages(1), days >= 2 ? 5 : 9);
        }
    }

    static void promise28_whatDiesOnTheThirdDayIsNotKept() {
        Edge.due(villages("VP00P00B030D019", drawing(6, 1, false), 3), 9);
        Edge.due(villages("VP00P00B040D019", drawing(6, 1, false), 3), 8);
    }

    static void promise28_aGuestIsNotDriven() {
        for (int m = 1; m <= 3; m++) {
            Edge.due(villages("VP00P00B043D019", drawing(6, 1, false), m), 9);
        }
    }

    static void promise28_anOxOnTheLastDayOfMarchAndTheDayBehind() {
        Edge.due(villages("VP90P00B041D019", drawing(6, 3, false), 5), 9);
        Edge.due(villages("VP90P00B041D019", drawing(6, 4, false), 6), 5);
    }

    static void promise28_theDayGoesOnFromTheDay() {
        PoundBeasts x = Edge.days(Edge.made("VP90P00B041D019"), 11);
        x.seed(drawing(6, 1, false));
        Edge.due(x.villages(3), 5);
        x.day();
        x.seed(drawing(6, 1, false));
        Edge.due(x.villages(3), 9);
    }

    static void promise28_allThatIsOwedTogether() {
        Edge.due(villages("VP00P00P00P00D019D109D239D308D121", 0, 1), 36);
        Edge.due(villages("VP90P00P00B090D015D129", drawing(6, 1, false), 3), 9);
    }
}
