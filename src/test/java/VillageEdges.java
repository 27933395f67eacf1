/** Promises 6 to 8: what is told of a person, of a beast, of what one owes another. */
final class VillageEdges {
    private static final int OUTSIDE = Edge.OUTSIDE, UNKNOWN = Edge.UNKNOWN, NONE = Edge.NONE;
    private static final int HAY = 0, MONEY = 1, BEASTS = 2, OWES = 3, IS_OWED = 4;
    private static final int OWNER = 0, WORTH = 1, KIND = 2, HOLDER = 3, DAYS = 4, DEAD = 5;

    private VillageEdges() {
    }

    /** 0 owes each of three others 99, by driving their guests eleven times. */
    private static PoundBeasts owesAllMost() {
        PoundBeasts x = Edge.made("VP00P00P00P00B193B293B393D101D201D301");
        for (int i = 0; i < 33; i++) {
            x.drive(0, i % 3);
        }
        return x;
    }

    /** Three others owe 0 as much as can be, all for one guest of its. */
    private static PoundBeasts isOwedMost() {
        PoundBeasts x = Edge.made("VP00P00P00P00B093D011D021D031");
        for (int i = 0; i < 33; i++) {
            x.drive(1 + i % 3, 0);
        }
        return x;
    }

    private static PoundBeasts shutInAndDead() {
        PoundBeasts x = Edge.made("VP10P00P00P00B090B010D031");
        x.drive(3, 0);
        x.drive(3, 1);
        return Edge.days(x, 1);
    }

    // ---- promise 6

    static void promise06_noSuchPerson() {
        for (int person : Edge.beside(0, 3)) {
            for (int what = 0; what <= 4; what++) {
                int asked = what;
                Edge.changesNothing(Edge::rich, UNKNOWN, x -> x.person(person, asked));
            }
        }
    }

    static void promise06_noSuchPersonOfTwo() {
        for (int person : Edge.beside(0, 1)) {
            Edge.changesNothing(() -> Edge.made("VP00P00"), UNKNOWN, x -> x.person(person, HAY));
        }
        Edge.due(Edge.made("VP00P00").person(1, HAY), 0);
    }

    static void promise06_nobodyIsThere() {
        Edge.changesNothing(PoundBeasts::new, UNKNOWN, x -> x.person(0, HAY));
        Edge.changesNothing(() -> Edge.made("V"), UNKNOWN, x -> x.person(0, HAY));
    }

    static void promise06_whatBelow0OrAbove4IsOutside() {
        for (int what : Edge.beside(0, 4)) {
            for (int person = 0; person <= 3; person++) {
                int asked = person;
                Edge.changesNothing(Edge::rich, OUTSIDE, x -> x.person(asked, what));
            }
        }
    }

    static void promise06_unknownIsToldAheadOfOutside() {
        for (int person : Edge.beside(0, 3)) {
            for (int what : Edge.beside(0, 4)) {
                Edge.changesNothing(Edge::rich, UNKNOWN, x -> x.person(person, what));
            }
        }
    }

    static void promise06_noHayAndMostHay() {
        PoundBeasts x = Edge.made("VP09P90");
        Edge.due(x.person(0, HAY), 0);
        Edge.due(x.person(1, HAY), 9);
    }

    static void promise06_noMoneyAndMostMoney() {
        PoundBeasts x = Edge.made("VP09P90");
        Edge.due(x.person(0, MONEY), 9);
        Edge.due(x.person(1, MONEY), 0);
    }

    static void promise06_noBeastsAndAllOfThem() {
        PoundBeasts x = Edge.made("VP00P00B110B111B112B113B110");
        Edge.due(x.person(0, BEASTS), 0);
        Edge.due(x.person(1, BEASTS), 31);
    }

    static void promise06_beastsThatAreDeadToo() {
        PoundBeasts x = shutInAndDead();
        Edge.due(x.count(5), 2);
        Edge.due(x.person(0, BEASTS), 3);
        Edge.due(x.person(3, BEASTS), 0);
    }

    static void promise06_owesNothingAndMost() {
        Edge.due(owesAllMost().person(0, OWES), 297);
        Edge.due(isOwedMost().person(0, OWES), 3);
        Edge.due(Edge.made("VP00P00").person(0, OWES), 0);
    }

    static void promise06_allHaveMostAndOweNothing() {
        PoundBeasts x = Edge.made("VP99P99P99P99B093B193B293B393B393");
        for (int person = 0; person <= 3; person++) {
            Edge.due(x.person(person, HAY), 9);
            Edge.due(x.person(person, MONEY), 9);
            Edge.due(x.person(person, OWES), 0);
            Edge.due(x.person(person, IS_OWED), 0);
        }
    }

    static void promise06_isOwedNothingAndMost() {
        Edge.due(isOwedMost().person(0, IS_OWED), 297);
        Edge.due(owesAllMost().person(0, IS_OWED), 3);
        Edge.due(owesAllMost().person(3, IS_OWED), 99);
        Edge.due(Edge.made("VP00P00").person(0, IS_OWED), 0);
    }

    static void promise06_theLastPersonIsToldLikeTheFirst() {
        PoundBeasts x = Edge.made("VP00P00P00P98B312D036D237D304");
        Edge.due(x.person(3, HAY), 9);
        Edge.due(x.person(3, MONEY), 8);
        Edge.due(x.person(3, BEASTS), 1);
        Edge.due(x.person(3, OWES), 4);
        Edge.due(x.person(3, IS_OWED), 13);
    }

    static void promise06_personChangesNothing() {
        int[] due = {1, 3, 9, 9, 14};
        for (int what = 0; what <= 4; what++) {
            int asked = what;
            Edge.changesNothing(Edge::rich, due[what], x -> x.person(0, asked));
        }
    }

    // ---- promise 7

    static void promise07_noSuchBeast() {
        for (int beast : Edge.beside(0, 4)) {
            for (int what = 0; what <= 5; what++) {
                int asked = what;
                Edge.changesNothing(Edge::rich, UNKNOWN, x -> x.beast(beast, asked));
            }
        }
    }

    static void promise07_noSuchBeastOfTwo() {
        for (int beast : Edge.beside(0, 1)) {
            Edge.changesNothing(() -> Edge.made("VP00P00P00B010B010"), UNKNOWN, x -> x.beast(beast, WORTH));
        }
        Edge.due(Edge.made("VP00B010B020").beast(1, WORTH), 2);
    }

    static void promise07_noBeastIsThere() {
        Edge.changesNothing(PoundBeasts::new, UNKNOWN, x -> x.beast(0, OWNER));
        Edge.changesNothing(() -> Edge.made("VP00P00"), UNKNOWN, x -> x.beast(0, OWNER));
    }

    static void promise07_whatBelow0OrAbove5IsOutside() {
        for (int what : Edge.beside(0, 5)) {
            for (int beast = 0; beast <= 4; beast++) {
                int asked = beast;
                Edge.changesNothing(Edge::rich, OUTSIDE, x -> x.beast(asked, what));
            }
        }
    }

    static void promise07_unknownIsToldAheadOfOutside() {
        for (int beast : Edge.beside(0, 4)) {
            for (int what : Edge.beside(0, 5)) {
                Edge.changesNothing(Edge::rich, UNKNOWN, x -> x.beast(beast, what));
            }
        }
    }

    static void promise07_theFirstOwnerAndTheLast() {
        PoundBeasts x = Edge.made("VP00P00P00P00B010B310");
        Edge.due(x.beast(0, OWNER), 0);
        Edge.due(x.beast(1, OWNER), 3);
    }

    static void promise07_leastWorthAndMost() {
        PoundBeasts x = Edge.made("VP00B010B090");
        Edge.due(x.beast(0, WORTH), 1);
        Edge.due(x.beast(1, WORTH), 9);
    }

    static void promise07_eachKind() {
        PoundBeasts x = Edge.made("VP00B010B011B012B013");
        for (int kind = 0; kind <= 3; kind++) {
            Edge.due(x.beast(kind, KIND), kind);
        }
    }

    static void promise07_forWhomItIsShutInOrNone() {
        PoundBeasts x = Edge.made("VP00P00P00P00B390B091D301D039");
        Edge.due(x.beast(0, HOLDER), NONE);
        x.drive(0, 0);
        Edge.due(x.beast(0, HOLDER), 0);
        Edge.days(x, 3);
        x.drive(3, 1);
        Edge.due(x.beast(1, HOLDER), 3);
    }

    static void promise07_daysFrom0On() {
        PoundBeasts x = Edge.made("VP90P00B090D019");
        Edge.days(x, 2);
        Edge.due(x.beast(0, DAYS), 0);
        x.drive(1, 0);
        for (int day = 0; day <= 15; day++) {
            Edge.due(x.beast(0, DAYS), day);
            x.day();
        }
    }

    static void promise07_deadIsNotShutInAndFor0Days() {
        PoundBeasts x = shutInAndDead();
        Edge.due(x.beast(0, DEAD), 0);
        Edge.due(x.beast(1, DEAD), 1);
        Edge.due(x.beast(1, WORTH), 0);
        Edge.due(x.beast(1, HOLDER), NONE);
        Edge.due(x.beast(1, DAYS), 0);
        Edge.due(x.beast(1, OWNER), 0);
    }

    static void promise07_beastChangesNothing() {
        int[] due = {0, 5, 1, 1, 1, 0};
        for (int what = 0; what <= 5; what++) {
            int asked = what;
            Edge.changesNothing(Edge::rich, due[what], x -> x.beast(0, asked));
        }
    }

    // ---- promise 8

    static void promise08_noSuchPerson() {
        for (int person : Edge.beside(0, 3)) {
            for (int other = 0; other <= 3; other++) {
                int known = other;
                Edge.changesNothing(Edge::rich, UNKNOWN, x -> x.owes(person, known));
                Edge.changesNothing(Edge::rich, UNKNOWN, x -> x.owes(known, person));
            }
            Edge.changesNothing(Edge::rich, UNKNOWN, x -> x.owes(person, person));
        }
    }

    static void promise08_noSuchPersonOfTwo() {
        for (int person : Edge.beside(0, 1)) {
            Edge.changesNothing(() -> Edge.made("VP00P00"), UNKNOWN, x -> x.owes(person, 0));
            Edge.changesNothing(() -> Edge.made("VP00P00"), UNKNOWN, x -> x.owes(1, person));
        }
    }

    static void promise08_nobodyIsThere() {
        Edge.changesNothing(PoundBeasts::new, UNKNOWN, x -> x.owes(0, 0));
    }

    static void promise08_nothingIsOwed() {
        Edge.due(Edge.made("VP00P00D019").owes(1, 0), 0);
    }

    static void promise08_itselfItOwesNothing() {
        for (int person = 0; person <= 3; person++) {
            Edge.due(Edge.rich().owes(person, person), 0);
            Edge.due(Edge.made("VP99P99P99P99B090B190B290B390").owes(person, person), 0);
        }
    }

    static void promise08_oneAnd9And99() {
        PoundBeasts x = Edge.made("VP00P00D011D109");
        Edge.due(x.owes(0, 1), 1);
        Edge.due(x.owes(1, 0), 9);
        Edge.due(owesAllMost().owes(0, 3), 99);
    }

    static void promise08_owesChangesNothing() {
        Edge.changesNothing(Edge::rich, 9, x -> x.owes(0, 1));
        Edge.changesNothing(Edge::rich, 0, x -> x.owes(3, 2));
    }
}
