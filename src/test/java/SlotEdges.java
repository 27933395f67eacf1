/** Promises 29 to 31: what is kept, gone on from; what is counted. */
final class SlotEdges {
    private static final int OUTSIDE = Edge.OUTSIDE, UNKNOWN = Edge.UNKNOWN, STATE = Edge.STATE;
    private static final int LETTERS = 0, PEOPLE = 1, BEASTS = 2, DAY = 3, SHUT_IN = 4, DEAD = 5, OWED = 6, ACTS = 7;
    private static final String FOUR = "VP00P00P00P00";

    private SlotEdges() {
    }

    private static String withoutSlots(String image) {
        return image.replaceAll("(?m)^slot .*\n", "");
    }

    // ---- promise 29

    static void promise29_noSuchSlot() {
        for (int slot : Edge.beside(0, 1)) {
            Edge.changesNothing(PoundBeasts::new, UNKNOWN, x -> x.keep(slot));
            Edge.changesNothing(Edge::rich, UNKNOWN, x -> x.keep(slot));
            Edge.changesNothing(Edge::late, UNKNOWN, x -> x.keep(slot));
        }
    }

    static void promise29_theFirstDayAndLaterOnes() {
        for (int slot = 0; slot <= 1; slot++) {
            Edge.due(new PoundBeasts().keep(slot), 0);
            Edge.due(Edge.made("VP00").keep(slot), 0);
            Edge.due(Edge.days(Edge.made("VP00"), 25).keep(slot), 25);
        }
    }

    static void promise29_nothingElseChanges() {
        for (int slot = 0; slot <= 1; slot++) {
            int kept = slot;
            for (Edge.Scene scene : new Edge.Scene[] {PoundBeasts::new, Edge::rich, Edge::late}) {
                String image = Edge.image(() -> {
                    PoundBeasts x = scene.made();
                    x.keep(kept);
                    return x;
                });
                Edge.same(withoutSlots(image), withoutSlots(Edge.image(scene)));
            }
        }
    }

    static void promise29_keptAnewTheOldIsGone() {
        PoundBeasts x = Edge.made("VP00");
        x.keep(0);
        Edge.days(x, 2);
        Edge.due(x.keep(0), 2);
        x.day();
        Edge.due(x.again(0), 2);
        Edge.due(x.count(DAY), 2);
    }

    static void promise29_theSlotsAreTwo() {
        PoundBeasts x = Edge.days(Edge.made("VP00"), 1);
        x.keep(0);
        Edge.days(x, 3);
        x.keep(1);
        x.day();
        Edge.due(x.again(0), 1);
        Edge.due(x.again(1), 4);
        Edge.due(x.again(0), 1);
    }

    static void promise29_whatIsKeptDoesNotGoOn() {
        PoundBeasts x = Edge.rich();
        x.keep(1);
        String kept = Edge.look(x).replaceAll("acts .*", "");
        Edge.days(x, 3);
        x.pay(0, 1, 3);
        x.breakOut(2);
        x.forfeit(0);
        x.again(1);
        Edge.same(Edge.look(x).replaceAll("acts .*", ""), kept);
    }

    // ---- promise 30

    static void promise30_noSuchSlot() {
        for (int slot : Edge.beside(0, 1)) {
            Edge.changesNothing(PoundBeasts::new, UNKNOWN, x -> x.again(slot));
            Edge.changesNothing(Edge::rich, UNKNOWN, x -> x.again(slot));
            Edge.changesNothing(Edge::late, UNKNOWN, x -> x.again(slot));
        }
    }

    static void promise30_aSlotThatWasNeverKept() {
        Edge.changesNothing(PoundBeasts::new, STATE, x -> x.again(0));
        Edge.changesNothing(PoundBeasts::new, STATE, x -> x.again(1));
        Edge.changesNothing(Edge::rich, STATE, x -> x.again(1));
        Edge.changesNothing(Edge::late, STATE, x -> x.again(0));
    }

    static void promise30_aSlotThatWasKeptAheadOfANewVillage() {
        for (int slot = 0; slot <= 1; slot++) {
            int kept = slot;
            Edge.changesNothing(() -> {
                PoundBeasts x = Edge.days(Edge.made("VP00P00"), 3);
                x.keep(kept);
                x.village();
                return x;
            }, STATE, x -> x.again(kept));
        }
    }

    static void promise30_keptOnceMoreInTheNewVillage() {
        PoundBeasts x = Edge.days(Edge.made("VP00P00"), 3);
        x.keep(0);
        x.keep(1);
        x.village();
        x.keep(1);
        Edge.refused(x, STATE, y -> y.again(0));
        Edge.due(x.again(1), 0);
    }

    static void promise30_aFaultOfTheTextLeavesWhatIsKept() {
        PoundBeasts x = Edge.days(Edge.made("VP00P00"), 3);
        x.keep(0);
        x.write('x');
        Edge.refused(x, STATE, y -> y.village());
        Edge.due(x.again(0), 3);
    }

    static void promise30_nobodyCanBeKept() {
        PoundBeasts x = new PoundBeasts();
        x.keep(1);
        x.day();
        Edge.due(x.again(1), 0);
        Edge.due(x.count(DAY) + x.count(PEOPLE) + x.count(ACTS), 0);
    }

    static void promise30_allIsAsItWasKept() {
        PoundBeasts x = Edge.rich();
        Edge.due(x.again(0), 3);
        Edge.same(Edge.look(x), "day 3 people 2/5 owes 0 8 0 0; 0/8 owes 4 0 3 0; 9/1 owes 3 0 0 0;"
                + " 0/0 owes 0 1 0 0; beasts 0 5 1 -9 0; 1 3 2 2 3; 1 4 0 -9 0; 0 7 3 -9 0; 1 6 1 -9 0; acts 0\n");
    }

    static void promise30_theRowOfActsIsEmpty() {
        PoundBeasts x = Edge.late();
        Edge.due(x.again(1), 0);
        Edge.due(x.count(ACTS), 0);
        Edge.refused(x, STATE, y -> y.undo());
        Edge.days(x, 15);
        Edge.due(x.count(ACTS), 14);
        for (int left = 13; left >= 0; left--) {
            Edge.due(x.undo(), left);
        }
        Edge.refused(x, STATE, y -> y.undo());
        Edge.due(x.count(DAY), 1);
    }

    static void promise30_theTextAndTheSeedStay() {
        PoundBeasts x = Edge.late();
        x.again(1);
        Edge.due(x.count(LETTERS), 56);
        Edge.due(x.fault(), 31);
        Edge.due(x.seed(0), Long.MAX_VALUE);
    }

    static void promise30_itMayBeGoneOnFromAgain() {
        PoundBeasts x = Edge.rich();
        x.again(0);
        String first = Edge.look(x);
        Edge.days(x, 20);
        Edge.due(x.again(0), 3);
        Edge.same(Edge.look(x), first);
        Edge.due(x.again(0), 3);
        Edge.same(Edge.look(x), first);
    }

    static void promise30_theOtherSlotStays() {
        PoundBeasts x = Edge.rich();
        x.keep(1);
        Edge.due(x.again(0), 3);
        Edge.due(x.again(1), 4);
    }

    // ---- promise 31

    private static void counts(Edge.Scene scene, int what, int want) {
        Edge.changesNothing(scene, want, x -> x.count(what));
    }

    /** Beasts of 0's, all of which are driven by 1, for so many days without hay. */
    private static Edge.Scene allDriven(int days) {
        return () -> {
            PoundBeasts x = Edge.made("VP00P00B010B012B020B022B010D019");
            for (int beast = 0; beast <= 4; beast++) {
                x.drive(1, beast);
            }
            return Edge.days(x, days);
        };
    }

    static void promise31_whatBelow0OrAbove7IsOutside() {
        for (int what : Edge.beside(0, 7)) {
            counts(PoundBeasts::new, what, OUTSIDE);
            counts(Edge::rich, what, OUTSIDE);
            counts(Edge::late, what, OUTSIDE);
        }
    }

    static void promise31_noLettersAndMost() {
        counts(PoundBeasts::new, LETTERS, 0);
        counts(Edge::late, LETTERS, 56);
        counts(Edge::rich, LETTERS, 9);
    }

    static void promise31_noPeopleAndMost() {
        counts(PoundBeasts::new, PEOPLE, 0);
        counts(() -> Edge.made("V"), PEOPLE, 0);
        counts(() -> Edge.made(FOUR), PEOPLE, 4);
    }

    static void promise31_noBeastsAndMost() {
        counts(PoundBeasts::new, BEASTS, 0);
        counts(() -> Edge.made(FOUR), BEASTS, 0);
        counts(() -> Edge.made(Edge.RICH), BEASTS, 5);
    }

    static void promise31_theDay() {
        counts(PoundBeasts::new, DAY, 0);
        counts(() -> Edge.days(new PoundBeasts(), 1), DAY, 1);
        counts(() -> Edge.days(Edge.made("VP00"), 30), DAY, 30);
    }

    static void promise31_noneShutInAndAll() {
        counts(PoundBeasts::new, SHUT_IN, 0);
        counts(allDriven(0), SHUT_IN, 31);
        counts(allDriven(1), SHUT_IN, 4);
        counts(allDriven(2), SHUT_IN, 0);
    }

    static void promise31_noneDeadAndAll() {
        counts(PoundBeasts::new, DEAD, 0);
        counts(allDriven(0), DEAD, 0);
        counts(allDriven(1), DEAD, 27);
        counts(allDriven(2), DEAD, 31);
    }

    // Who drives a guest then owes, so that the other one may drive a guest, too.
    static void promise31_nothingOwedAndMost() {
        counts(PoundBeasts::new, OWED, 0);
        counts(() -> Edge.made(FOUR), OWED, 0);
        PoundBeasts x = Edge.made(FOUR + "B093B193B293B393D011D021D031D121D131D231");
        for (int i = 0; i < 11; i++) {
            for (int owner = 0; owner <= 3; owner++) {
                for (int person = owner + 1; person <= 3; person++) {
                    x.drive(person, owner);
                    x.drive(owner, person);
                }
            }
        }
        Edge.due(x.count(OWED), 12 * 99);
    }

    static void promise31_noActsAndMost() {
        counts(PoundBeasts::new, ACTS, 0);
        for (int acts = 1; acts <= 16; acts++) {
            int done = acts;
            counts(() -> Edge.days(Edge.made("VP00"), done), ACTS, Math.min(14, acts));
        }
    }

    static void promise31_aWipedTextLeavesTheVillage() {
        PoundBeasts x = Edge.made(Edge.RICH);
        x.wipe();
        Edge.due(x.count(LETTERS), 0);
        Edge.due(10 * x.count(PEOPLE) + x.count(BEASTS), 45);
    }
}
