/** Promises 9 to 14: driven, a day, paid, broken out, kept, undone. */
final class ActEdges {
    private static final int OUTSIDE = Edge.OUTSIDE, UNKNOWN = Edge.UNKNOWN, STATE = Edge.STATE, NONE = Edge.NONE;
    private static final int ACTS = 7;

    private ActEdges() {
    }

    /** 1 owes 0 so much for a guest that it drove: 9 for each time, 99 at most. */
    private static PoundBeasts owing(int times, int worth) {
        PoundBeasts x = Edge.made("VP00P00B093B0" + worth + "3D019B190");
        for (int i = 0; i < times; i++) {
            x.drive(1, 0);
        }
        return x;
    }

    /** A beast of this worth and kind, that is shut in. */
    private static PoundBeasts shutIn(int hay, int worth, int kind) {
        PoundBeasts x = Edge.made("VP" + hay + "0P00B0" + worth + kind + "D019");
        Edge.days(x, kind == 1 ? 3 : 0);
        x.drive(1, 0);
        return x;
    }

    // ---- promise 9

    static void promise09_noSuchPerson() {
        for (int person : Edge.beside(0, 3)) {
            for (int beast = 0; beast <= 4; beast++) {
                int known = beast;
                Edge.changesNothing(Edge::rich, UNKNOWN, x -> x.drive(person, known));
            }
        }
        Edge.changesNothing(() -> Edge.made("VP00P00B010D011"), UNKNOWN, x -> x.drive(2, 0));
    }

    static void promise09_noSuchBeast() {
        for (int beast : Edge.beside(0, 4)) {
            for (int person = 0; person <= 3; person++) {
                int known = person;
                Edge.changesNothing(Edge::rich, UNKNOWN, x -> x.drive(known, beast));
            }
            Edge.changesNothing(Edge::rich, UNKNOWN, x -> x.drive(beast, beast));
        }
        Edge.changesNothing(() -> Edge.made("VP00P00B010D011"), UNKNOWN, x -> x.drive(1, 1));
    }

    static void promise09_nobodyIsThere() {
        Edge.changesNothing(PoundBeasts::new, UNKNOWN, x -> x.drive(0, 0));
    }

    static void promise09_clause1IsRefused() {
        Edge.changesNothing(Edge::rich, STATE, x -> x.drive(1, 4));
        Edge.changesNothing(Edge::rich, STATE, x -> x.drive(0, 0));
        Edge.changesNothing(Edge::late, STATE, x -> x.drive(0, 1));
    }

    static void promise09_clause2IsRefused() {
        Edge.changesNothing(Edge::late, STATE, x -> x.drive(1, 1));
    }

    static void promise09_clause3IsRefused() {
        Edge.changesNothing(Edge::rich, STATE, x -> x.drive(1, 0));
        Edge.changesNothing(Edge::rich, STATE, x -> x.drive(2, 0));
        Edge.changesNothing(Edge::late, STATE, x -> x.drive(0, 2));
    }

    static void promise09_clause4IsRefused() {
        Edge.changesNothing(Edge::rich, STATE, x -> x.drive(3, 4));
        Edge.changesNothing(Edge::rich, STATE, x -> x.drive(2, 3));
    }

    static void promise09_clause5IsRefused() {
        Edge.changesNothing(() -> Edge.made(Edge.RICH), STATE, x -> x.drive(0, 4));
    }

    static void promise09_anOxOnTheFirstAndTheLastDayOfMarchAndBeside() {
        for (int day : new int[] {0, 1, 2, 12, 13, 14, 24, 26}) {
            Edge.changesNothing(() -> Edge.days(Edge.made("VP00P00B091D019"), day), STATE, x -> x.drive(1, 0));
        }
        for (int day : new int[] {3, 4, 11, 15, 23, 27}) {
            Edge.due(Edge.days(Edge.made("VP00P00B091D019"), day).drive(1, 0), 0);
        }
    }

    static void promise09_inMarchOthersMayBeDriven() {
        Edge.due(Edge.made("VP00P00B090D019").drive(1, 0), 0);
        Edge.due(Edge.made("VP00P00B092D019").drive(1, 0), 0);
    }

    static void promise09_byClause0ItIsShutInForThatOneFor0Days() {
        PoundBeasts x = Edge.made("VP12P34B050D011");
        Edge.due(x.drive(1, 0), 0);
        Edge.same(Edge.look(x), "day 0 people 1/2 owes 0 1; 3/4 owes 0 0; beasts 0 5 0 1 0; acts 1\n");
    }

    static void promise09_theLastPersonDrivesTheLastBeast() {
        PoundBeasts x = Edge.made("VP00P00P00P00B010B010B010B010B090D031");
        Edge.due(x.drive(3, 4), 0);
        Edge.due(x.beast(4, 3), 3);
        Edge.due(x.count(4), 16);
    }

    static void promise09_shutInAnewItIsSoFor0Days() {
        PoundBeasts x = shutIn(9, 9, 0);
        Edge.days(x, 2);
        x.breakOut(0);
        x.drive(1, 0);
        Edge.due(x.beast(0, 4), 0);
    }

    static void promise09_byClause6ItStaysAndItsWorthIsOwed() {
        PoundBeasts x = Edge.made("VP12P34B053D011");
        Edge.due(x.drive(1, 0), 6);
        Edge.same(Edge.look(x), "day 0 people 1/2 owes 0 1; 3/4 owes 5 0; beasts 0 5 3 -9 0; acts 1\n");
    }

    static void promise09_byClause6ItIsOwedMore() {
        PoundBeasts x = Edge.made("VP12P34B053D011D107");
        Edge.due(x.drive(1, 0), 6);
        Edge.due(x.owes(1, 0), 12);
        Edge.due(x.owes(0, 1), 1);
    }

    static void promise09_exactly99IsOwed() {
        Edge.due(owing(10, 9).owes(1, 0), 90);
        Edge.due(owing(11, 9).owes(1, 0), 99);
        PoundBeasts x = owing(10, 8);
        x.drive(1, 1);
        Edge.due(x.owes(1, 0), 98);
    }

    static void promise09_moreThan99IsNotOwed() {
        PoundBeasts x = owing(10, 8);
        x.drive(1, 1);
        Edge.due(x.drive(1, 1), 6);
        Edge.due(x.owes(1, 0), 99);
        Edge.due(owing(12, 9).owes(1, 0), 99);
        Edge.due(owing(30, 9).owes(1, 0), 99);
    }

    static void promise09_at99ItIsAnActAllTheSame() {
        PoundBeasts x = owing(11, 9);
        Edge.due(x.count(ACTS), 11);
        Edge.due(x.drive(1, 0), 6);
        Edge.due(x.count(ACTS), 12);
        Edge.due(x.undo(), 11);
        Edge.due(x.owes(1, 0), 99);
        Edge.due(x.undo(), 10);
        Edge.due(x.owes(1, 0), 90);
    }

    static void promise09_inMarchAGuestIsOwed() {
        PoundBeasts x = Edge.made("VP00P00B093D019");
        Edge.due(x.drive(1, 0), 6);
        Edge.due(Edge.days(x, 5).drive(1, 0), 6);
    }

    // ---- promise 10

    static void promise10_withNobodyThereIsADay() {
        PoundBeasts x = new PoundBeasts();
        Edge.due(x.day(), 0);
        Edge.due(x.count(3), 1);
        Edge.due(x.count(ACTS), 1);
    }

    static void promise10_atHomeNothingIsGiven() {
        PoundBeasts x = Edge.made("VP10P00B020B012D011");
        Edge.due(x.day(), 0);
        Edge.same(Edge.look(x), "day 1 people 1/0 owes 0 1; 0/0 owes 0 0; beasts 0 2 0 -9 0; 0 1 2 -9 0; acts 1\n");
    }

    static void promise10_allFiveAreShutIn() {
        PoundBeasts x = Edge.made("VP60P00B010B012B020B022B090D019");
        for (int beast = 0; beast <= 4; beast++) {
            x.drive(1, beast);
        }
        Edge.due(x.day(), 5);
        Edge.due(x.person(0, 0), 1);
        Edge.due(x.day(), 3);
        Edge.due(x.count(5), 10);
    }

    static void promise10_aBeastAtWorth1Dies() {
        for (int kind = 0; kind <= 2; kind++) {
            PoundBeasts x = shutIn(0, 1, kind);
            Edge.due(x.day(), 0);
            Edge.due(x.beast(0, 1), 0);
            Edge.due(x.beast(0, 5), 1);
            Edge.due(x.count(4), 0);
        }
    }

    static void promise10_aCowAndAnOxAtWorth2LiveAtWorth1() {
        for (int kind = 0; kind <= 1; kind++) {
            PoundBeasts x = shutIn(0, 2, kind);
            Edge.due(x.day(), 1);
            Edge.due(x.beast(0, 1), 1);
            Edge.due(x.beast(0, 5), 0);
        }
    }

    static void promise10_aSheepAtWorth2Dies() {
        PoundBeasts x = shutIn(0, 2, 2);
        Edge.due(x.day(), 0);
        Edge.due(x.beast(0, 1), 0);
        Edge.due(x.count(5), 1);
    }

    static void promise10_aSheepAtWorth3LivesAtWorth1() {
        PoundBeasts x = shutIn(0, 3, 2);
        Edge.due(x.day(), 1);
        Edge.due(x.beast(0, 1), 1);
        Edge.due(x.day(), 0);
        Edge.due(x.beast(0, 1), 0);
    }

    static void promise10_theLastHayFeedsThenNone() {
        PoundBeasts x = shutIn(1, 3, 0);
        x.day();
        Edge.due(10 * x.person(0, 0) + x.beast(0, 1), 3);
        x.day();
        Edge.due(10 * x.person(0, 0) + x.beast(0, 1), 2);
    }

    static void promise10_byNumberTheFirstGetsTheLastHay() {
        PoundBeasts x = Edge.made("VP10P00B030B030D019");
        x.drive(1, 1);
        x.drive(1, 0);
        x.day();
        Edge.due(10 * x.beast(0, 1) + x.beast(1, 1), 32);
    }

    static void promise10_eachOwnerGivesItsOwnHay() {
        PoundBeasts x = Edge.made("VP10P10P50B030B130D029D129");
        x.drive(2, 0);
        x.drive(2, 1);
        Edge.due(x.day(), 2);
        Edge.same(Edge.look(x), "day 1 people 0/0 owes 0 0 9; 0/0 owes 0 0 9; 5/0 owes 0 0 0;"
                + " beasts 0 3 0 2 1; 1 3 0 2 1; acts 3\n");
    }

    static void promise10_theDeadOneEatsNoMore() {
        PoundBeasts x = Edge.made("VP00P00B012B090D019D101");
        x.drive(1, 0);
        x.day();
        x.drive(1, 1);
        Edge.due(x.day(), 1);
        Edge.due(x.beast(0, 1), 0);
        Edge.due(x.beast(0, 4), 0);
        Edge.due(x.beast(1, 1), 8);
    }

    static void promise10_fedOrNotItIsADayLonger() {
        PoundBeasts x = shutIn(1, 9, 0);
        Edge.days(x, 1);
        Edge.due(x.beast(0, 4), 1);
        Edge.days(x, 1);
        Edge.due(x.beast(0, 4), 2);
    }

    static void promise10_theDayIsOneMoreBeyondAYear() {
        PoundBeasts x = Edge.made("VP00");
        for (int day = 1; day <= 40; day++) {
            x.day();
            Edge.due(x.count(3), day);
        }
    }

    // ---- promise 11

    private static PoundBeasts payer() {
        PoundBeasts x = Edge.made("VP09P03P00B090B090B090B190D019D024D109");
        x.drive(1, 0);
        x.drive(1, 1);
        x.drive(2, 2);
        x.drive(0, 3);
        return x;
    }

    static void promise11_noSuchPerson() {
        for (int person : Edge.beside(0, 3)) {
            for (int other = 0; other <= 3; other++) {
                int known = other;
                Edge.changesNothing(Edge::rich, UNKNOWN, x -> x.pay(person, known, 1));
                Edge.changesNothing(Edge::rich, UNKNOWN, x -> x.pay(known, person, 1));
            }
        }
        Edge.changesNothing(ActEdges::payer, UNKNOWN, x -> x.pay(0, 3, 1));
        Edge.changesNothing(PoundBeasts::new, UNKNOWN, x -> x.pay(0, 1, 1));
    }

    static void promise11_bothAreOne() {
        for (int person = 0; person <= 3; person++) {
            int known = person;
            Edge.changesNothing(Edge::rich, OUTSIDE, x -> x.pay(known, known, 1));
        }
    }

    static void promise11_nBelow1OrAbove9IsOutside() {
        for (int n : Edge.beside(1, 9)) {
            Edge.changesNothing(ActEdges::payer, OUTSIDE, x -> x.pay(0, 1, n));
        }
    }

    static void promise11_unknownIsToldAheadOfOutside() {
        for (int person : Edge.beside(0, 3)) {
            Edge.changesNothing(Edge::rich, UNKNOWN, x -> x.pay(person, person, 1));
            Edge.changesNothing(Edge::rich, UNKNOWN, x -> x.pay(person, 0, 0));
            Edge.changesNothing(Edge::rich, UNKNOWN, x -> x.pay(0, person, 10));
        }
    }

    static void promise11_outsideIsToldAheadOfState() {
        for (int n : Edge.beside(1, 9)) {
            Edge.changesNothing(Edge::rich, OUTSIDE, x -> x.pay(3, 0, n));
        }
        Edge.changesNothing(Edge::rich, OUTSIDE, x -> x.pay(3, 3, 9));
    }

    static void promise11_itOwesLess() {
        Edge.changesNothing(ActEdges::payer, STATE, x -> x.pay(0, 2, 5));
        Edge.due(payer().pay(0, 2, 4), 0);
    }

    static void promise11_itOwesNothing() {
        Edge.changesNothing(ActEdges::payer, STATE, x -> x.pay(1, 2, 1));
        Edge.changesNothing(Edge::rich, STATE, x -> x.pay(0, 2, 1));
    }

    static void promise11_itHasLess() {
        Edge.changesNothing(ActEdges::payer, STATE, x -> x.pay(1, 0, 4));
        Edge.due(payer().pay(1, 0, 3), 6);
    }

    static void promise11_itHasNothing() {
        Edge.changesNothing(() -> Edge.made("VP00P99D019"), STATE, x -> x.pay(0, 1, 1));
    }

    static void promise11_oneIsPaidAndNine() {
        Edge.due(payer().pay(0, 1, 1), 8);
        Edge.due(payer().pay(0, 1, 9), 0);
    }

    static void promise11_whatIsPaidGoesFromOneToTheOther() {
        PoundBeasts x = payer();
        x.pay(0, 1, 9);
        Edge.due(x.person(0, 1), 0);
        Edge.due(x.person(1, 1), 12);
        Edge.due(x.person(2, 1), 0);
    }

    static void promise11_moreThan9OfMoneyIsHad() {
        PoundBeasts x = payer();
        x.pay(0, 1, 9);
        Edge.due(x.pay(1, 0, 9), 0);
        Edge.due(x.person(1, 1), 3);
    }

    static void promise11_allButOneIsPaidAndNoneGoesHome() {
        PoundBeasts x = payer();
        Edge.due(x.pay(0, 1, 8), 1);
        Edge.due(x.count(4), 15);
    }

    static void promise11_allIsPaidAndAllItsBeastsThereGoHome() {
        PoundBeasts x = Edge.days(payer(), 1);
        Edge.due(x.pay(0, 1, 9), 0);
        Edge.due(x.count(4), 12);
        for (int beast = 0; beast <= 1; beast++) {
            Edge.due(x.beast(beast, 3), NONE);
            Edge.due(x.beast(beast, 4), 0);
            Edge.due(x.beast(beast, 0), 0);
        }
    }

    static void promise11_thoseThatAreShutInForOthersStay() {
        PoundBeasts x = Edge.days(payer(), 1);
        x.pay(0, 1, 9);
        Edge.due(x.beast(2, 3), 2);
        Edge.due(x.beast(2, 4), 1);
    }

    static void promise11_thoseOfTheOtherOneStay() {
        PoundBeasts x = Edge.days(payer(), 1);
        x.pay(0, 1, 9);
        Edge.due(x.beast(3, 3), 0);
        Edge.due(x.beast(3, 4), 1);
    }

    static void promise11_thoseOfOtherDebtorsStay() {
        PoundBeasts x = Edge.made("VP09P00P09B090B290D019D219");
        x.drive(1, 0);
        x.drive(1, 1);
        Edge.due(x.pay(0, 1, 9), 0);
        Edge.due(x.count(4), 2);
        Edge.due(x.beast(1, 3), 1);
    }

    static void promise11_ofAllFiveOnlyThoseGoHome() {
        for (int payer = 1; payer <= 3; payer++) {
            String text = "VP99P99P99P99B0#0B#90B#90B090B#90D#09".replace("#", "" + payer);
            PoundBeasts x = Edge.made(text);
            x.drive(0, 1);
            x.drive(0, 4);
            Edge.due(x.count(4), 18);
            Edge.due(x.pay(payer, 0, 9), 0);
            Edge.due(x.count(4), 0);
            for (int beast = 0; beast <= 4; beast++) {
                Edge.due(x.beast(beast, 0), beast == 0 || beast == 3 ? 0 : payer);
                Edge.due(x.beast(beast, 1), beast == 0 ? payer : 9);
                Edge.due(x.beast(beast, 3), NONE);
                Edge.due(x.beast(beast, 4), 0);
            }
        }
    }

    static void promise11_ofADebtAbove9NineCanBePaid() {
        PoundBeasts x = Edge.made("VP00P09B093D019");
        for (int i = 0; i < 11; i++) {
            x.drive(1, 0);
        }
        Edge.refused(x, OUTSIDE, y -> y.pay(1, 0, 10));
        Edge.due(x.pay(1, 0, 9), 90);
    }

    // ---- promise 12

    /** 0 owes 1 so much; its cow is shut in there. */
    private static PoundBeasts owingShutIn(int owed) {
        PoundBeasts x = Edge.made("VP90P00B090B113D01" + (owed % 9 == 0 ? 9 : owed % 9) + "D101");
        while (x.owes(0, 1) < owed) {
            if (owed - x.owes(0, 1) >= 3) {
                x.drive(1, 0);
                x.breakOut(0);
            } else {
                x.drive(0, 1);
            }
        }
        x.drive(1, 0);
        return x;
    }

    static void promise12_noSuchBeast() {
        for (int beast : Edge.beside(0, 4)) {
            Edge.changesNothing(Edge::rich, UNKNOWN, x -> x.breakOut(beast));
        }
        Edge.changesNothing(Edge::late, UNKNOWN, x -> x.breakOut(4));
        Edge.changesNothing(PoundBeasts::new, UNKNOWN, x -> x.breakOut(0));
    }

    static void promise12_itIsAtHome() {
        Edge.changesNothing(Edge::rich, STATE, x -> x.breakOut(1));
        Edge.changesNothing(Edge::rich, STATE, x -> x.breakOut(4));
    }

    static void promise12_itIsDead() {
        Edge.changesNothing(Edge::late, STATE, x -> x.breakOut(1));
    }

    static void promise12_aGuestIsAtHome() {
        Edge.changesNothing(Edge::rich, STATE, x -> x.breakOut(3));
    }

    static void promise12_threeMoreAreOwedThere() {
        PoundBeasts x = Edge.made("VP11P11P11B050D021");
        x.drive(2, 0);
        x.day();
        Edge.due(x.breakOut(0), 2);
        Edge.same(Edge.look(x), "day 1 people 0/1 owes 0 0 4; 1/1 owes 0 0 0; 1/1 owes 0 0 0;"
                + " beasts 0 5 0 -9 0; acts 3\n");
    }

    static void promise12_exactly99IsOwed() {
        PoundBeasts x = owingShutIn(96);
        Edge.due(x.owes(0, 1), 96);
        Edge.due(x.breakOut(0), 1);
        Edge.due(x.owes(0, 1), 99);
    }

    static void promise12_moreThan99IsNotOwed() {
        for (int owed = 97; owed <= 99; owed++) {
            PoundBeasts x = owingShutIn(owed);
            Edge.due(x.owes(0, 1), owed);
            Edge.due(x.breakOut(0), 1);
            Edge.due(x.owes(0, 1), 99);
            Edge.due(x.count(4), 0);
        }
    }

    static void promise12_evenIfNothingWasOwedAnyMore() {
        PoundBeasts x = Edge.made("VP90P00B090B060D013");
        x.drive(1, 0);
        x.drive(1, 1);
        Edge.days(x, 3);
        x.forfeit(0);
        Edge.due(x.owes(0, 1), 0);
        Edge.due(x.breakOut(1), 1);
        Edge.due(x.owes(0, 1), 3);
    }

    static void promise12_onceOutItIsNotShutIn() {
        PoundBeasts x = shutIn(0, 9, 0);
        x.breakOut(0);
        Edge.refused(x, STATE, y -> y.breakOut(0));
        Edge.due(x.owes(0, 1), 12);
    }

    // ---- promise 13

    static void promise13_noSuchBeast() {
        for (int beast : Edge.beside(0, 4)) {
            Edge.changesNothing(Edge::rich, UNKNOWN, x -> x.forfeit(beast));
        }
        Edge.changesNothing(Edge::late, UNKNOWN, x -> x.forfeit(4));
        Edge.changesNothing(PoundBeasts::new, UNKNOWN, x -> x.forfeit(0));
    }

    static void promise13_itIsAtHome() {
        Edge.changesNothing(Edge::rich, STATE, x -> x.forfeit(1));
        Edge.changesNothing(Edge::rich, STATE, x -> x.forfeit(3));
    }

    static void promise13_itIsDead() {
        Edge.changesNothing(Edge::late, STATE, x -> x.forfeit(1));
        Edge.changesNothing(() -> Edge.days(shutIn(0, 3, 0), 3), STATE, x -> x.forfeit(0));
    }

    static void promise13_fewerThan3DaysAreRefused() {
        for (int shut = 0; shut <= 2; shut++) {
            int days = shut;
            Edge.changesNothing(() -> Edge.days(shutIn(9, 9, 0), days), STATE, x -> x.forfeit(0));
        }
    }

    static void promise13_threeDaysAndLonger() {
        for (int shut = 3; shut <= 6; shut++) {
            PoundBeasts x = Edge.days(shutIn(9, 5, 0), shut);
            Edge.due(x.forfeit(0), 0);
            Edge.due(x.owes(0, 1), 4);
        }
    }

    static void promise13_theDaysOfAnEarlierTimeDoNotCount() {
        PoundBeasts x = Edge.days(shutIn(9, 5, 0), 3);
        x.breakOut(0);
        x.drive(1, 0);
        Edge.refused(x, STATE, y -> y.forfeit(0));
        Edge.days(x, 3);
        Edge.due(x.forfeit(0), 0);
    }

    static void promise13_itIsThatOnesAndAtHome() {
        PoundBeasts x = Edge.made("VP90P00P00P00B050D039");
        x.drive(3, 0);
        Edge.days(x, 3);
        Edge.due(x.forfeit(0), 0);
        Edge.same(Edge.look(x), "day 3 people 6/0 owes 0 0 0 4; 0/0 owes 0 0 0 0; 0/0 owes 0 0 0 0;"
                + " 0/0 owes 0 0 0 0; beasts 3 5 0 -9 0; acts 5\n");
    }

    static void promise13_worthLessThanIsOwed() {
        PoundBeasts x = Edge.days(shutIn(9, 8, 0), 3);
        x.forfeit(0);
        Edge.due(x.owes(0, 1), 1);
    }

    static void promise13_worthAsMuchAsIsOwed() {
        PoundBeasts x = Edge.days(shutIn(9, 9, 0), 3);
        x.forfeit(0);
        Edge.due(x.owes(0, 1), 0);
    }

    static void promise13_worthMoreThanIsOwed() {
        PoundBeasts x = Edge.made("VP90P00B090D011");
        x.drive(1, 0);
        Edge.days(x, 3).forfeit(0);
        Edge.due(x.owes(0, 1), 0);
        Edge.due(x.owes(1, 0), 0);
    }

    static void promise13_itsWorthNowCounts() {
        PoundBeasts x = Edge.days(shutIn(0, 4, 0), 3);
        Edge.due(x.forfeit(0), 0);
        Edge.due(x.owes(0, 1), 8);
        Edge.due(x.beast(0, 1), 1);
    }

    static void promise13_onceKeptItIsNotShutIn() {
        PoundBeasts x = Edge.days(shutIn(9, 4, 0), 3);
        x.forfeit(0);
        Edge.refused(x, STATE, y -> y.forfeit(0));
        Edge.refused(x, STATE, y -> y.breakOut(0));
    }

    // ---- promise 14

    static void promise14_nothingToUndo() {
        Edge.changesNothing(PoundBeasts::new, STATE, x -> x.undo());
        Edge.changesNothing(() -> Edge.made(Edge.RICH), STATE, x -> x.undo());
        Edge.changesNothing(() -> {
            PoundBeasts x = Edge.rich();
            x.again(0);
            return x;
        }, STATE, x -> x.undo());
    }

    static void promise14_theOnlyActIsUndone() {
        PoundBeasts x = Edge.days(Edge.made("VP00"), 1);
        Edge.due(x.undo(), 0);
        Edge.due(x.count(3), 0);
        Edge.refused(x, STATE, y -> y.undo());
    }

    static void promise14_fourteenActsAreUndone() {
        PoundBeasts x = Edge.days(Edge.made("VP00"), 14);
        Edge.due(x.count(ACTS), 14);
        for (int left = 13; left >= 0; left--) {
            Edge.due(x.undo(), left);
            Edge.due(x.count(3), left);
        }
        Edge.refused(x, STATE, y -> y.undo());
    }

    static void promise14_ofFifteenTheFirstIsForgotten() {
        PoundBeasts x = Edge.days(Edge.made("VP00"), 15);
        Edge.due(x.count(ACTS), 14);
        for (int left = 13; left >= 0; left--) {
            Edge.due(x.undo(), left);
        }
        Edge.due(x.count(3), 1);
        Edge.refused(x, STATE, y -> y.undo());
    }

    static void promise14_ofManyTheLastFourteenAreLeft() {
        for (int acts : new int[] {28, 29, 41}) {
            PoundBeasts x = Edge.days(Edge.made("VP00"), acts);
            for (int left = 13; left >= 0; left--) {
                Edge.due(x.undo(), left);
            }
            Edge.due(x.count(3), acts - 14);
            Edge.refused(x, STATE, y -> y.undo());
        }
    }

    static void promise14_whatWasForgottenDoesNotComeBack() {
        PoundBeasts x = Edge.days(Edge.made("VP00"), 16);
        x.undo();
        x.undo();
        Edge.due(x.count(ACTS), 12);
        Edge.days(x, 3);
        Edge.due(x.count(ACTS), 14);
        for (int left = 13; left >= 0; left--) {
            Edge.due(x.undo(), left);
        }
        Edge.due(x.count(3), 3);
        Edge.refused(x, STATE, y -> y.undo());
    }

    private static void undoes(Edge.Scene before, Edge.Call act) {
        PoundBeasts x = before.made();
        int acts = x.count(ACTS);
        String was = Edge.look(x);
        Edge.due(act.on(x) >= 0 ? 1 : 0, 1);
        Edge.due(x.count(ACTS), acts + 1);
        Edge.due(x.undo(), acts);
        Edge.same(Edge.look(x), was);
    }

    static void promise14_drivenIsUndone() {
        undoes(Edge::rich, x -> x.drive(0, 4));
        undoes(Edge::rich, x -> x.drive(1, 3));
    }

    static void promise14_aDayIsUndone() {
        undoes(Edge::rich, x -> x.day());
        undoes(() -> shutIn(0, 1, 0), x -> x.day());
    }

    static void promise14_paidIsUndone() {
        undoes(Edge::rich, x -> x.pay(0, 1, 3));
        undoes(ActEdges::payer, x -> x.pay(0, 1, 9));
    }

    static void promise14_brokenOutIsUndone() {
        undoes(Edge::rich, x -> x.breakOut(2));
        undoes(() -> fewActs(98), x -> x.breakOut(0));
    }

    /** As owingShutIn, but gone on from a slot, so that few acts are in the row. */
    private static PoundBeasts fewActs(int owed) {
        PoundBeasts x = owingShutIn(owed);
        x.keep(0);
        x.again(0);
        return x;
    }

    static void promise14_keptIsUndone() {
        undoes(() -> Edge.days(shutIn(0, 9, 0), 3), x -> x.forfeit(0));
        undoes(() -> Edge.days(shutIn(9, 9, 0), 3), x -> x.forfeit(0));
    }

    static void promise14_theSeedTheTextAndTheSlotsStay() {
        PoundBeasts x = Edge.made("VP00");
        x.day();
        x.keep(1);
        x.seed(9);
        x.write('P');
        x.undo();
        Edge.due(x.seed(0), 9);
        Edge.due(x.count(0), 5);
        Edge.due(x.again(1), 1);
    }

    static void promise14_whatIsNoActIsNotInTheRow() {
        PoundBeasts x = Edge.made(Edge.RICH);
        x.day();
        x.keep(0);
        x.villages(3);
        x.seed(4);
        x.judge(1, 3);
        x.wipe();
        x.write('V');
        Edge.due(x.count(ACTS), 1);
        Edge.due(x.undo(), 0);
        Edge.due(x.count(3), 0);
    }
}
