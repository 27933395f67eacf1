/** Promises 2 to 14, 29 and 30: each call changes what it is told to change, and nothing else that can be seen. */
final class ChangeEdges {
    private static final int NONE = Edge.NONE;
    /** Three people who all owe each other; a cow, an ox, a sheep, a guest and a cow of the last one. */
    private static final String ALL = "VP93P84P15B090B181B292B073B260D014D025D106D127D208D219";

    private ChangeEdges() {
    }

    private static PoundBeasts all() {
        return Edge.made(ALL);
    }

    /** Behind March, a cow, an ox and a sheep shut in for so many days. */
    private static PoundBeasts shutIn(int days) {
        PoundBeasts x = Edge.days(all(), 3);
        x.drive(1, 0);
        x.drive(2, 1);
        x.drive(0, 2);
        return Edge.days(x, days);
    }

    static void promise02_onlyTheTextIsLonger() {
        PoundBeasts x = all();
        x.wipe();
        Edge.changes(x, y -> y.write('V'), 1, "letters=1");
        Edge.changes(x, y -> y.write(255), 2, "letters=2");
    }

    static void promise03_onlyTheTextIsEmpty() {
        Edge.changes(shutIn(4), x -> x.wipe(), 54, "letters=0");
    }

    static void promise05_allIsAsItIsTold() {
        PoundBeasts x = shutIn(3);
        x.forfeit(1);
        Edge.changes(x, y -> y.village(), 35,
                "acts=0 day=0 days0=0 days2=0 hay0=9 hay1=8 hay2=1 holder0=-9 holder2=-9 owed=39 owes12=7 owner1=1"
                + " shut=0 worth2=9");
    }

    static void promise09_onlyThatBeastIsShutIn() {
        Edge.changes(all(), x -> x.drive(1, 0), 0, "acts=1 holder0=1 shut=1");
        Edge.changes(all(), x -> x.drive(2, 0), 0, "acts=1 holder0=2 shut=1");
        Edge.changes(all(), x -> x.drive(0, 2), 0, "acts=1 holder2=0 shut=4");
        Edge.changes(all(), x -> x.drive(1, 4), 0, "acts=1 holder4=1 shut=16");
        Edge.changes(Edge.days(all(), 3), x -> x.drive(0, 1), 0, "acts=4 holder1=0 shut=2");
    }

    static void promise09_aGuestChangesOneDebtAlone() {
        Edge.changes(all(), x -> x.drive(1, 3), 6, "acts=1 owed=46 owes10=13");
        Edge.changes(all(), x -> x.drive(2, 3), 6, "acts=1 owed=46 owes20=15");
    }

    static void promise10_withNoneShutInOnlyTheDayIsOneMore() {
        Edge.changes(all(), x -> x.day(), 0, "acts=1 day=1");
    }

    // The last one has 1 of hay: it feeds its sheep, by number ahead of its cow, on the first day alone.
    static void promise10_hayOrWorthAndTheDays() {
        PoundBeasts x = shutIn(0);
        x.drive(1, 4);
        Edge.changes(x, y -> y.day(), 4,
                "acts=8 day=4 days0=1 days1=1 days2=1 days4=1 hay0=8 hay1=7 hay2=0 worth4=5");
        Edge.changes(x, y -> y.day(), 4,
                "acts=9 day=5 days0=2 days1=2 days2=2 days4=2 hay0=7 hay1=6 worth2=7 worth4=4");
    }

    static void promise10_whatDiesIsAtHomeAndKeepsItsOwner() {
        PoundBeasts x = shutIn(5);
        Edge.due(x.beast(2, 1), 1);
        Edge.changes(x, y -> y.day(), 2,
                "acts=12 day=9 days0=6 days1=6 days2=0 dead=4 hay0=3 hay1=2 holder2=-9 shut=3 worth2=0");
    }

    static void promise11_onlyMoneyAndThatDebt() {
        Edge.changes(shutIn(2), x -> x.pay(0, 1, 3), 1, "acts=9 money0=0 money1=7 owed=36 owes01=1");
        Edge.changes(shutIn(2), x -> x.pay(2, 1, 5), 4, "acts=9 money1=9 money2=0 owed=34 owes21=4");
    }

    static void promise11_allIsPaidAndOnlyThoseGoHome() {
        PoundBeasts x = shutIn(2);
        x.pay(1, 0, 4);
        Edge.changes(x, y -> y.pay(0, 1, 4), 0,
                "acts=10 days0=0 holder0=-9 money0=3 money1=4 owed=31 owes01=0 shut=6");
    }

    static void promise12_atHomeAndThreeMore() {
        Edge.changes(shutIn(2), x -> x.breakOut(0), 1, "acts=9 days0=0 holder0=-9 owed=42 owes01=7 shut=6");
        Edge.changes(shutIn(2), x -> x.breakOut(1), 2, "acts=9 days1=0 holder1=-9 owed=42 owes12=10 shut=5");
        Edge.changes(shutIn(2), x -> x.breakOut(2), 0, "acts=9 days2=0 holder2=-9 owed=42 owes20=11 shut=3");
    }

    static void promise13_thatOnesAtHomeAndLessIsOwed() {
        Edge.changes(shutIn(3), x -> x.forfeit(0), 0,
                "acts=10 days0=0 holder0=-9 owed=35 owes01=0 owner0=1 shut=6");
        Edge.changes(shutIn(3), x -> x.forfeit(1), 1,
                "acts=10 days1=0 holder1=-9 owed=32 owes12=0 owner1=2 shut=5");
        Edge.changes(shutIn(3), x -> x.forfeit(2), 2,
                "acts=10 days2=0 holder2=-9 owed=34 owes20=3 owner2=0 shut=3");
    }

    static void promise13_anOxStaysAnOxAndASheepASheep() {
        PoundBeasts x = Edge.days(shutIn(3), 6);
        x.forfeit(1);
        Edge.due(x.clause(0, 1), 5);
        Edge.due(x.clause(1, 1), 5);
        Edge.due(x.beast(1, 2), 1);
        x = shutIn(3);
        x.forfeit(2);
        x.drive(2, 2);
        Edge.due(x.beast(2, 2), 2);
        Edge.due(x.worth(2, 3), 5);
        Edge.due(x.worth(2, 4), 3);
        Edge.due(x.worth(2, 5), 1);
    }

    static void promise14_onlyTheLastActIsUndone() {
        PoundBeasts x = shutIn(3);
        Edge.changes(x, y -> y.undo(), 8, "acts=8 day=5 days0=2 days1=2 days2=2 hay0=7 hay1=6 worth2=7");
        x = shutIn(3);
        x.forfeit(0);
        Edge.changes(x, y -> y.undo(), 9, "acts=9 days0=3 holder0=1 owed=39 owes01=4 owner0=0 shut=7");
        x = shutIn(1);
        x.breakOut(2);
        Edge.changes(x, y -> y.undo(), 7, "acts=7 days2=1 holder2=0 owed=39 owes20=8 shut=7");
        x.pay(0, 1, 2);
        Edge.changes(x, y -> y.undo(), 7, "acts=7 money0=3 money1=4 owed=39 owes01=4");
    }

    static void promise29_nothingThatCanBeSeen() {
        Edge.changes(shutIn(3), x -> x.keep(0), 6, "");
        Edge.changes(shutIn(3), x -> x.keep(1), 6, "");
    }

    static void promise30_allThatWasKeptAndTheRowIsEmpty() {
        PoundBeasts x = shutIn(1);
        x.keep(1);
        Edge.days(x, 2);
        x.forfeit(1);
        x.breakOut(2);
        Edge.changes(x, y -> y.again(1), 4,
                "acts=0 day=4 days0=1 days1=1 days2=1 hay0=8 hay1=7 holder1=2 holder2=0 owed=39 owes12=7 owes20=8"
                + " owner1=1 shut=7 worth2=9");
    }

    static void promise05_nobodyIsLeftOfTheOld() {
        PoundBeasts x = shutIn(1);
        x.wipe();
        x.write('V');
        Edge.due(x.village(), 0);
        int[] due = {1, 0, 0, 0, 0, 0, 0, 0};
        for (int what = 0; what < due.length; what++) {
            Edge.due(x.count(what), due[what]);
        }
        Edge.due(x.person(0, 0), Edge.UNKNOWN);
        Edge.due(x.beast(0, 3), Edge.UNKNOWN);
        Edge.write(x, "P00P00B010");
        Edge.due(x.village(), 21);
        Edge.due(x.owes(0, 1) + x.owes(1, 0), 0);
        Edge.due(x.beast(0, 3), NONE);
        Edge.due(x.beast(0, 4), 0);
    }
}
