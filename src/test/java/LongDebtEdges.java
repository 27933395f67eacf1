/** Runs up to the 512th call: what one owes another, MONEY and who owns a BEAST, as far as the calls take them. */
final class LongDebtEdges {
    private static final int STATE = Edge.STATE, NONE = Edge.NONE;
    private static final int SHUT_IN = 4, DEAD = 5, OWED = 6, ACTS = 7;
    private static final int MOST = 99;
    /** Each has a guest; of each two one owes the other, so that both can come to owe. */
    private static final String GUESTS = "VP00P00P00P00B093B193B293B393D011D021D031D121D131D231";

    private LongDebtEdges() {
    }

    // Who drives a guest owes its owner, who may then drive a guest of that one.
    private static LongRun allOweMost() {
        LongRun run = LongRun.of(GUESTS);
        for (int i = 0; i < 11; i++) {
            driveEachGuest(run);
        }
        return run;
    }

    private static void driveEachGuest(LongRun run) {
        for (int owner = 0; owner <= 3; owner++) {
            for (int person = owner + 1; person <= 3; person++) {
                Edge.due(run.call().drive(person, owner), 6);
                Edge.due(run.call().drive(owner, person), 6);
            }
        }
    }

    // ---- what is owed

    static void promise06_eachOwesAllAndIsOwedByAllTheMost() {
        LongRun run = allOweMost();
        for (int person = 0; person <= 3; person++) {
            Edge.due(run.call().person(person, 3), 3 * MOST);
            Edge.due(run.call().person(person, 4), 3 * MOST);
        }
    }

    static void promise08_eachOwesEachOtherTheMost() {
        LongRun run = allOweMost();
        for (int person = 0; person <= 3; person++) {
            for (int other = 0; other <= 3; other++) {
                Edge.due(run.call().owes(person, other), person == other ? 0 : MOST);
            }
        }
    }

    static void promise09_eachGuestRaisesOneDebtTillTheLastCall() {
        for (int worth = 1; worth <= 9; worth++) {
            LongRun run = LongRun.of("VP00P00B0" + worth + "3D019");
            for (int driven = 1; run.left() >= 3; driven++) {
                Edge.due(run.call().drive(1, 0), 6);
                Edge.due(run.call().owes(1, 0), Math.min(MOST, worth * driven));
                Edge.due(run.call().owes(0, 1), 9);
            }
        }
    }

    static void promise09_atTheMostItStaysTillTheLastCall() {
        LongRun run = allOweMost();
        while (run.left() >= 15) {
            driveEachGuest(run);
            Edge.due(run.call().count(OWED), 12 * MOST);
        }
        Edge.due(run.call().count(ACTS), 14);
        Edge.due(run.call().count(SHUT_IN), 0);
    }

    static void promise12_eachTimeThreeMoreTillTheLastCall() {
        for (int first = 1; first <= 9; first++) {
            LongRun run = LongRun.of("VP00P00B090D01" + first);
            for (int times = 1; run.left() >= 3; times++) {
                Edge.due(run.call().drive(1, 0), 0);
                Edge.due(run.call().breakOut(0), 1);
                Edge.due(run.call().owes(0, 1), Math.min(MOST, first + 3 * times));
            }
        }
    }

    static void promise12_allFiveBreakOutTillTheLastCall() {
        LongRun run = LongRun.of("VP00P00B010B020B030B042B050D011");
        for (int owed = 16; run.left() >= 12; owed = Math.min(MOST, owed + 15)) {
            for (int beast = 0; beast <= 4; beast++) {
                Edge.due(run.call().drive(1, beast), 0);
            }
            Edge.due(run.call().count(SHUT_IN), 31);
            for (int beast = 4; beast >= 0; beast--) {
                Edge.due(run.call().breakOut(beast), 1);
            }
            Edge.due(run.call().owes(0, 1), owed);
        }
    }

    static void promise14_whatWasOwedAheadOfTheMostComesBack() {
        LongRun run = LongRun.of("VP00P00B073D019");
        for (int driven = 1; driven <= 20; driven++) {
            run.call().drive(1, 0);
        }
        for (int driven = 19; driven >= 6; driven--) {
            Edge.due(run.call().undo(), driven - 6);
            Edge.due(run.call().owes(1, 0), Math.min(MOST, 7 * driven));
        }
        Edge.due(run.call().undo(), STATE);
        Edge.due(run.call().owes(1, 0), 42);
    }

    static void promise14_at99AndBackTillTheLastCall() {
        LongRun run = LongRun.of("VP00P00B053D019");
        for (int driven = 1; driven <= 19; driven++) {
            run.call().drive(1, 0);
        }
        while (run.left() >= 8) {
            Edge.due(run.call().owes(1, 0), 95);
            run.call().drive(1, 0);
            run.call().drive(1, 0);
            Edge.due(run.call().owes(1, 0), MOST);
            Edge.due(run.call().count(ACTS), 14);
            run.call().undo();
            Edge.due(run.call().owes(1, 0), MOST);
            run.call().undo();
        }
    }

    static void promise31_allTogetherIsToldOnTheWayToTheMost() {
        LongRun run = LongRun.of(GUESTS);
        for (int round = 1; round <= 12; round++) {
            driveEachGuest(run);
            int raised = Math.min(MOST, 9 * round);
            int first = Math.min(MOST, 1 + 9 * round);
            Edge.due(run.call().count(OWED), 6 * (raised + first));
        }
    }

    // ---- what follows from the most that is owed

    static void promise17_ofTheMostTheWorthIsTaken() {
        LongRun run = LongRun.of("VP90P00B093B090B140D019");
        oweMost(run, 1, 0, 1);
        Edge.due(run.call().take(0, 1, true), MOST - 1);
        run = LongRun.of("VP00P90B090B193D019D101");
        oweMost(run, 0, 1, 0);
        Edge.due(run.call().take(1, 0, false), 0);
        Edge.due(run.call().take(1, 0, true), MOST - 6);
    }

    /** Such a person drives such a guest, till it owes the owner the most. */
    private static void oweMost(LongRun run, int person, int guest, int owes) {
        for (int i = 0; i < 11; i++) {
            Edge.due(run.call().drive(person, guest), 6);
        }
        Edge.due(run.call().person(owes, 3), MOST);
    }

    static void promise20_ofRingsThatOweTheMostTheLeast() {
        LongRun run = allOweMost();
        for (int person = 0; person <= 3; person++) {
            Edge.due(run.call().ring(person), person == 0 ? 12 : 10 * person + 11);
        }
    }

    static void promise21_inEachRingTheMost() {
        LongRun run = allOweMost();
        for (int person = 0; person <= 3; person++) {
            Edge.due(run.call().close(person), MOST);
        }
    }

    static void promise22_brokenOutAndDrivenAtTheMost() {
        LongRun run = LongRun.of("VP00P00B093B190D011");
        oweMost(run, 1, 0, 1);
        Edge.due(run.call().judge(4, 120021120021L), NONE);
        Edge.due(run.call().owes(1, 0), MOST);
        Edge.due(run.call().count(SHUT_IN), 0);
    }

    static void promise25_ofTheMostNothingIsPaidAtRest() {
        LongRun run = allOweMost();
        for (int owner = 0; owner <= 3; owner++) {
            for (int creditor = 0; creditor <= 3; creditor++) {
                if (owner != creditor) {
                    Edge.due(run.call().rests(owner, creditor, 0), 1);
                    Edge.due(run.call().rests(owner, creditor, 1), 0);
                }
            }
        }
    }

    static void promise28_allTogetherAtTheMost() {
        LongRun run = allOweMost();
        while (run.left() > 0) {
            Edge.due(run.call().villages(1 + run.left() % 30), 12 * MOST);
        }
    }

    static void promise30_keptAtTheMostAndAheadOfIt() {
        LongRun run = LongRun.of(GUESTS);
        Edge.due(run.call().keep(0), 0);
        for (int i = 0; i < 11; i++) {
            driveEachGuest(run);
        }
        Edge.due(run.call().keep(1), 0);
        while (run.left() >= 4) {
            Edge.due(run.call().again(0), 0);
            Edge.due(run.call().count(OWED), 6);
            Edge.due(run.call().again(1), 0);
            Edge.due(run.call().count(OWED), 12 * MOST);
        }
    }

    // ---- MONEY

    // Both come to owe the most, pay it down to nothing with the same 9 of money, and owe anew.
    static void promise11_theMostIsPaidDownTillTheLastCall() {
        LongRun run = LongRun.of("VP09P09B093B193B010D019D109");
        while (run.left() >= 47) {
            for (int i = 0; i < 10; i++) {
                run.call().drive(1, 0);
                run.call().drive(0, 1);
            }
            Edge.due(run.call().drive(1, 2), 0);
            for (int left = 90; left >= 9; left -= 9) {
                Edge.due(run.call().pay(0, 1, 9), left);
                Edge.due(run.call().pay(1, 0, 9), left);
            }
            Edge.due(run.call().count(SHUT_IN), 4);
            Edge.due(run.call().pay(0, 1, 9), 0);
            Edge.due(run.call().count(SHUT_IN), 0);
            Edge.due(run.call().drive(0, 1), 6);
            Edge.due(run.call().pay(1, 0, 9), 0);
            Edge.due(run.call().drive(1, 0), 6);
        }
        Edge.due(run.call().person(0, 1), 9);
        Edge.due(run.call().person(1, 1), 9);
    }

    static void promise11_allMoneyComesToOneAndGoes() {
        LongRun run = LongRun.of("VP09P09P09P09B193D109D209D309");
        for (int i = 1; i <= 5; i++) {
            Edge.due(run.call().drive(0, 0), 6);
        }
        for (int person = 1; person <= 3; person++) {
            Edge.due(run.call().pay(person, 0, 9), 0);
            Edge.due(run.call().person(0, 1), 9 + 9 * person);
        }
        for (int left = 36; left >= 9; left -= 9) {
            Edge.due(run.call().pay(0, 1, 9), left);
        }
        Edge.due(run.call().pay(0, 1, 9), STATE);
        Edge.due(run.call().pay(0, 1, 1), STATE);
        Edge.due(run.call().person(0, 1), 0);
        Edge.due(run.call().person(1, 1), 36);
    }

    static void promise06_allMoneyOfTheVillageIsHadByOne() {
        LongRun run = LongRun.of("VP09P09P09P09D139D239D039");
        for (int person = 0; person <= 2; person++) {
            run.call().pay(person, 3, 9);
            Edge.due(run.call().person(person, 1), 0);
        }
        Edge.due(run.call().person(3, 1), 36);
    }

    static void promise11_oneByOneTillTheLastCall() {
        LongRun run = LongRun.of("VP01P00B013B113D011D101");
        while (run.left() >= 8) {
            Edge.due(run.call().drive(1, 0), 6);
            Edge.due(run.call().drive(0, 1), 6);
            Edge.due(run.call().pay(0, 1, 1), 1);
            Edge.due(run.call().pay(0, 1, 1), STATE);
            Edge.due(run.call().person(1, 1), 1);
            Edge.due(run.call().pay(1, 0, 1), 1);
            Edge.due(run.call().pay(1, 0, 1), STATE);
            Edge.due(run.call().person(0, 1), 1);
        }
    }

    // ---- who owns a beast

    // Fed by 18 of hay it is kept six times at its full worth, twice at less, and then it dies.
    static void promise13_aBeastGoesToAndFroTillItDies() {
        LongRun run = LongRun.of("VP90P90B093B193B090D019D109");
        for (int i = 0; i < 10; i++) {
            run.call().drive(1, 0);
            run.call().drive(0, 1);
        }
        int[] worths = {9, 9, 9, 9, 9, 9, 6, 3};
        int[] owed = {MOST, MOST};
        for (int times = 0; times < worths.length; times++) {
            int owner = times % 2;
            Edge.due(run.call().drive(1 - owner, 2), 0);
            run.days(2);
            Edge.due(run.call().forfeit(2), STATE);
            run.days(1);
            Edge.due(run.call().forfeit(2), owner);
            owed[owner] -= worths[times];
            Edge.due(run.call().owes(owner, 1 - owner), owed[owner]);
            Edge.due(run.call().beast(2, 0), 1 - owner);
            Edge.due(run.call().beast(2, 1), worths[times]);
            Edge.due(run.call().person(1 - owner, 2), 1 - owner == 0 ? 5 : 6);
        }
        Edge.due(run.call().drive(1, 2), 0);
        run.days(3);
        Edge.due(run.call().forfeit(2), STATE);
        Edge.due(run.call().beast(2, 0), 0);
        Edge.due(run.call().count(DEAD), 4);
        Edge.due(run.call().count(OWED), owed[0] + owed[1]);
    }

    // A beast never fed is still kept, if it is worth more than three days take.
    static void promise13_allFiveAreKeptOneBehindTheOther() {
        LongRun run = LongRun.of("VP90P00B090B090B090B090B090D019");
        int[] left = {0, 0, 0, 0, 0};
        for (int beast = 0; beast <= 4; beast++) {
            for (int i = 0; i < 33 && beast == 0; i++) {
                run.call().drive(1, 0);
                run.call().breakOut(0);
            }
            Edge.due(run.call().drive(1, beast), 0);
            run.days(3);
            int worth = beast <= 2 ? 9 : 6;
            left[beast] = (beast == 0 ? MOST : left[beast - 1]) - worth;
            Edge.due(run.call().forfeit(beast), 0);
            Edge.due(run.call().owes(0, 1), left[beast]);
        }
        Edge.due(run.call().person(1, 2), 31);
        Edge.due(run.call().person(0, 2), 0);
    }
}
