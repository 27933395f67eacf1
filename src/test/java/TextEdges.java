/** Promises 1 to 5: a new object, THE TEXT, its FAULT, THE VILLAGE made of it. */
final class TextEdges {
    private static final int STATE = Edge.STATE, OUTSIDE = Edge.OUTSIDE, UNKNOWN = Edge.UNKNOWN;
    private static final int FULL = Edge.FULL, NONE = Edge.NONE;
    private static final String FIGURES = "0123456789";
    private static final String FOUR = "VP00P00P00P00";

    private TextEdges() {
    }

    private static PoundBeasts fullText() {
        PoundBeasts x = Edge.made("VP00P00");
        x.wipe();
        for (int i = 0; i < 56; i++) {
            x.write('V');
        }
        return x;
    }

    private static PoundBeasts shortText() {
        return Edge.written("VP12P34D0");
    }

    private static void faultOf(String text, int want) {
        Edge.due(Edge.written(text).fault(), want);
    }

    /** Behind the head each letter but these is at fault, and is told as the first that is. */
    private static void onlyThese(String head, String letters) {
        for (int letter = 0; letter <= 255; letter++) {
            PoundBeasts x = Edge.written(head);
            x.write(letter);
            boolean atFault = x.fault() == head.length();
            Edge.due(atFault ? 1 : 0, letters.indexOf(letter) < 0 ? 1 : 0);
            if (atFault) {
                Edge.write(x, "P00");
                Edge.due(x.fault(), head.length());
            }
        }
    }

    // ---- promise 1

    static void promise01_thereIsNobody() {
        PoundBeasts x = new PoundBeasts();
        for (int what = 1; what <= 2; what++) {
            Edge.due(x.count(what), 0);
        }
        for (int what = 0; what <= 5; what++) {
            int asked = what;
            Edge.refused(x, UNKNOWN, y -> y.person(0, asked));
            Edge.refused(x, UNKNOWN, y -> y.beast(0, asked));
        }
    }

    static void promise01_theTextIsEmpty() {
        Edge.due(new PoundBeasts().count(0), 0);
        Edge.due(new PoundBeasts().wipe(), 0);
        Edge.due(new PoundBeasts().fault(), 0);
        Edge.changesNothing(PoundBeasts::new, STATE, x -> x.village());
    }

    static void promise01_theDayIs0() {
        Edge.due(new PoundBeasts().count(3), 0);
        Edge.due(new PoundBeasts().keep(0), 0);
    }

    static void promise01_nothingIsShutInDeadOrOwed() {
        for (int what = 4; what <= 6; what++) {
            Edge.due(new PoundBeasts().count(what), 0);
        }
    }

    static void promise01_noActIsInTheRow() {
        Edge.due(new PoundBeasts().count(7), 0);
        Edge.changesNothing(PoundBeasts::new, STATE, x -> x.undo());
    }

    static void promise01_noSlotIsKept() {
        Edge.changesNothing(PoundBeasts::new, STATE, x -> x.again(0));
        Edge.changesNothing(PoundBeasts::new, STATE, x -> x.again(1));
    }

    static void promise01_theSeedIs0() {
        Edge.due(new PoundBeasts().seed(5), 0);
    }

    static void promise01_anotherObjectIsForItself() {
        String before = Edge.image(PoundBeasts::new);
        PoundBeasts other = Edge.rich();
        PoundBeasts x = new PoundBeasts();
        Edge.due(other.count(1) + x.count(1), 4);
        Edge.same(Edge.image(PoundBeasts::new), before);
    }

    static void promise01_its512thCallIsAnswered() {
        PoundBeasts x = Edge.made("VP00");
        Edge.days(x, 506);
        Edge.due(x.count(3), 506);
        x = Edge.made("VP00P00B091D019");
        Edge.days(x, 494);
        Edge.due(x.clause(1, 0), 5);
        Edge.due(x.undo(), 13);
    }

    // ---- promise 2

    static void promise02_aLetterOf0AndOf255() {
        PoundBeasts x = new PoundBeasts();
        Edge.due(x.write(0), 1);
        Edge.due(x.write(255), 2);
        Edge.due(x.count(0), 2);
    }

    static void promise02_aLetterBelow0OrAbove255IsOutside() {
        for (int letter : Edge.beside(0, 255)) {
            Edge.changesNothing(PoundBeasts::new, OUTSIDE, x -> x.write(letter));
            Edge.changesNothing(TextEdges::shortText, OUTSIDE, x -> x.write(letter));
            Edge.changesNothing(Edge::rich, OUTSIDE, x -> x.write(letter));
        }
    }

    // 256 more is the same byte: it is no letter all the same.
    static void promise02_aLetterThatOnlyItsLowByteFitsIsOutside() {
        Edge.changesNothing(PoundBeasts::new, OUTSIDE, x -> x.write('V' + 256));
        Edge.changesNothing(PoundBeasts::new, OUTSIDE, x -> x.write('V' - 256));
    }

    static void promise02_itComesBehindTheText() {
        PoundBeasts x = Edge.written("VP9");
        Edge.due(x.write('4'), 4);
        x.village();
        Edge.due(10 * x.person(0, 0) + x.person(0, 1), 94);
    }

    static void promise02_the56thLetterIsTheLast() {
        PoundBeasts x = new PoundBeasts();
        for (int length = 1; length <= 56; length++) {
            Edge.due(x.write(length), length);
        }
        Edge.refused(x, FULL, y -> y.write('V'));
        Edge.due(x.count(0), 56);
    }

    static void promise02_aFullTextTakesNoLetter() {
        for (int letter : new int[] {0, 'V', 'P', 255}) {
            Edge.changesNothing(TextEdges::fullText, FULL, x -> x.write(letter));
            Edge.changesNothing(Edge::late, FULL, x -> x.write(letter));
        }
    }

    static void promise02_outsideIsToldAheadOfFull() {
        for (int letter : Edge.beside(0, 255)) {
            Edge.changesNothing(TextEdges::fullText, OUTSIDE, x -> x.write(letter));
        }
    }

    static void promise02_theVillageStaysAsItIs() {
        PoundBeasts x = Edge.made(Edge.RICH);
        String before = Edge.look(x);
        x.write('P');
        Edge.same(Edge.look(x), before);
    }

    // ---- promise 3

    static void promise03_theEmptyTextWas0Long() {
        Edge.changesNothing(PoundBeasts::new, 0, x -> x.wipe());
    }

    static void promise03_theFullTextWas56Long() {
        PoundBeasts x = fullText();
        Edge.due(x.wipe(), 56);
        Edge.due(x.count(0), 0);
        Edge.due(x.wipe(), 0);
    }

    static void promise03_aNewTextBeginsAtItsFirstLetter() {
        PoundBeasts x = fullText();
        x.wipe();
        for (int length = 1; length <= 56; length++) {
            Edge.due(x.write('V'), length);
        }
        Edge.refused(x, FULL, y -> y.write('V'));
    }

    static void promise03_nothingOfTheOldTextIsLeft() {
        PoundBeasts x = Edge.written("VP12P34");
        x.wipe();
        Edge.due(x.fault(), 0);
        x.write('V');
        Edge.due(x.fault(), NONE);
        Edge.due(x.village(), 0);
    }

    static void promise03_onlyTheTextIsGone() {
        PoundBeasts wiped = Edge.made(Edge.RICH);
        wiped.keep(1);
        wiped.drive(2, 1);
        wiped.seed(5);
        String before = Edge.look(wiped);
        wiped.wipe();
        Edge.same(Edge.look(wiped), before);
        Edge.due(wiped.seed(0), 5);
        Edge.due(wiped.undo(), 0);
        Edge.due(wiped.again(1), 0);
    }

    // ---- promise 4

    static void promise04_theEmptyTextIsOnlyNotAtItsEnd() {
        Edge.changesNothing(PoundBeasts::new, 0, x -> x.fault());
    }

    static void promise04_theFirstLetterIsV() {
        onlyThese("", "V");
    }

    static void promise04_noPartsAreAVillage() {
        faultOf("V", NONE);
    }

    static void promise04_onlyAPersonCanBeToldFirst() {
        onlyThese("V", "P");
    }

    static void promise04_aloneAPersonOwesNobody() {
        onlyThese("VP00", "PB");
    }

    static void promise04_ofTwoOneCanOwe() {
        onlyThese("VP00P00", "PBD");
    }

    static void promise04_partsMayComeInAnyOrder() {
        faultOf("VP00B010P00D011P00B122D201", NONE);
    }

    static void promise04_hayIsAFigure() {
        onlyThese("VP", FIGURES);
    }

    static void promise04_moneyIsAFigure() {
        onlyThese("VP0", FIGURES);
    }

    static void promise04_aPersonIsNotAtItsEnd() {
        faultOf("VP", 2);
        faultOf("VP9", 3);
        faultOf("VP99", NONE);
    }

    static void promise04_fourPeopleAtMost() {
        faultOf(FOUR, NONE);
        onlyThese(FOUR, "BD");
    }

    static void promise04_anOwnerIsToldAhead() {
        onlyThese("VP00B", "0");
        onlyThese("VP00P00B", "01");
        onlyThese(FOUR + "B", "0123");
        faultOf("VP00B110P00", 5);
    }

    static void promise04_worthIs1To9() {
        onlyThese("VP00B0", "123456789");
    }

    static void promise04_kindIs0To3() {
        onlyThese("VP00B09", "0123");
    }

    static void promise04_aBeastIsNotAtItsEnd() {
        faultOf("VP00B", 5);
        faultOf("VP00B0", 6);
        faultOf("VP00B01", 7);
        faultOf("VP00B010", NONE);
    }

    static void promise04_fiveBeastsAtMost() {
        faultOf("VP00P00B010B011B012B013", NONE);
        faultOf("VP00P00B010B011B012B013B190", NONE);
        onlyThese("VP00P00B010B011B012B013B190", "PD");
        onlyThese(FOUR + "B010B011B012B013B190", "D");
    }

    static void promise04_whoOwesIsToldAhead() {
        onlyThese("VP00P00D", "01");
        onlyThese(FOUR + "D", "0123");
        faultOf("VP00P00D201P00", 8);
    }

    static void promise04_whoIsOwedIsAnotherOneToldAhead() {
        onlyThese("VP00P00D0", "1");
        onlyThese("VP00P00D1", "0");
        onlyThese(FOUR + "D2", "013");
        faultOf("VP00P00D021P00", 9);
    }

    static void promise04_whatIsOwedIs1To9() {
        onlyThese("VP00P00D01", "123456789");
    }

    static void promise04_aDebtIsNotAtItsEnd() {
        faultOf("VP00P00D", 8);
        faultOf("VP00P00D0", 9);
        faultOf("VP00P00D01", 10);
        faultOf("VP00P00D011", NONE);
    }

    static void promise04_aPairIsToldOnce() {
        onlyThese("VP00P00P00D019D0", "2");
        faultOf("VP00P00P00D019D019", 16);
    }

    static void promise04_theOtherWayRoundIsAnotherPair() {
        faultOf("VP00P00D019D101", NONE);
        onlyThese("VP00P00D019D1", "0");
    }

    static void promise04_whoHasToldAllItsPairsOwesNobodyMore() {
        onlyThese("VP00P00D011D", "1");
        onlyThese(FOUR + "D011D021D031D", "123");
        onlyThese(FOUR + "D301D311D321D", "012");
        onlyThese("VP00P00D101D", "0");
    }

    static void promise04_noPairIsLeft() {
        onlyThese("VP00P00D011D101", "PB");
        onlyThese("VP00P00P00D011D021D101D121D201D211", "PB");
    }

    static void promise04_onlyOnePairIsLeft() {
        onlyThese("VP00P00D101", "PBD");
        onlyThese("VP00P00D011", "PBD");
        onlyThese("VP00P00P00D011D021D101D121D201", "PBD");
        onlyThese("VP00P00P00D011D021D101D201D211D", "1");
        onlyThese("VP00P00P00D011D101D121D201D211D0", "2");
    }

    static void promise04_anotherPersonBringsPairs() {
        onlyThese("VP00P00D011D101P00", "PBD");
        onlyThese("VP00P00D011D101P00D", "012");
        onlyThese("VP00P00D011D101P00D0", "2");
    }

    static void promise04_ofTwoFaultsTheFirst() {
        faultOf("VPx0P0x", 2);
        faultOf("xVPx", 0);
        faultOf("VP00B004", 6);
    }

    static void promise04_theLongestVillage() {
        faultOf("VP00P00P00B010B010B010B010B010D011D021D101D121D201D211", NONE);
        onlyThese("VP00P00P00B010B010B010B010B010D011D021D101D121D201D211", "P");
    }

    // The 12 pairs of four people take 61 letters: that a text is 56 long at most is set aside.
    static void promise04_itsLengthIsSetAside() {
        String tenPairs = FOUR + "D011D021D031D101D121D131D201D211D231D301";
        faultOf(tenPairs, NONE);
        faultOf(tenPairs + "D", 54);
        faultOf(tenPairs + "D3", 55);
        faultOf(tenPairs + "D31", 56);
        faultOf(tenPairs + "D30", 55);
        onlyThese(tenPairs + "D3", "12");
        onlyThese(tenPairs, "BD");
    }

    static void promise04_theFullTextCanBeAtFaultAtItsLastLetter() {
        String head = "VP00P00P00B010B010B010B010B010D011D021D101D121D201D211";
        faultOf(head + "P9", 56);
        faultOf(head + "P:", 55);
    }

    static void promise04_faultChangesNothing() {
        Edge.changesNothing(Edge::rich, 9, x -> x.fault());
        Edge.changesNothing(() -> Edge.made(Edge.RICH), NONE, x -> x.fault());
        Edge.changesNothing(Edge::late, 31, x -> x.fault());
    }

    // ---- promise 5

    static void promise05_nobodyIsAVillage() {
        PoundBeasts x = Edge.made(Edge.RICH);
        x.wipe();
        x.write('V');
        Edge.due(x.village(), 0);
        Edge.due(x.count(1) + x.count(2) + x.count(6), 0);
        Edge.refused(x, UNKNOWN, y -> y.person(0, 0));
        Edge.refused(x, UNKNOWN, y -> y.beast(0, 0));
    }

    static void promise05_fourPeopleAndNoBeasts() {
        Edge.due(Edge.written(FOUR).village(), 40);
    }

    static void promise05_onePersonAndFiveBeasts() {
        Edge.due(Edge.written("VP00B010B010B010B010B010").village(), 15);
    }

    static void promise05_fourPeopleAndFiveBeasts() {
        Edge.due(Edge.written(Edge.RICH).village(), 45);
    }

    static void promise05_theLongestVillage() {
        PoundBeasts x = Edge.written("VP00P00P00B010B010B010B010B010D011D022D103D124D205D216");
        Edge.due(x.count(0), 54);
        Edge.due(x.village(), 35);
        Edge.due(x.count(6), 21);
        Edge.due(x.owes(2, 1), 6);
    }

    static void promise05_theyAreNumberedAsTheyAreTold() {
        PoundBeasts x = Edge.made("VP12B030P34D015B172P56D207");
        Edge.same(Edge.look(x), "day 0 people 1/2 owes 0 5 0; 3/4 owes 0 0 0; 5/6 owes 7 0 0;"
                + " beasts 0 3 0 -9 0; 1 7 2 -9 0; acts 0\n");
    }

    static void promise05_leastAndMostOfEachFigure() {
        PoundBeasts x = Edge.made("VP09P90B010B193D019D101");
        Edge.same(Edge.look(x), "day 0 people 0/9 owes 0 9; 9/0 owes 1 0;"
                + " beasts 0 1 0 -9 0; 1 9 3 -9 0; acts 0\n");
    }

    static void promise05_theDayIs0AndAllBeastsAreAtHome() {
        PoundBeasts x = Edge.made("VP00P00B090B020D019");
        x.drive(1, 0);
        x.drive(1, 1);
        Edge.days(x, 2);
        Edge.due(x.village(), 22);
        Edge.same(Edge.look(x), Edge.look(Edge.made("VP00P00B090B020D019")));
    }

    static void promise05_theRowOfActsIsEmpty() {
        PoundBeasts x = Edge.days(Edge.made("VP00"), 20);
        x.village();
        Edge.due(x.count(7), 0);
        Edge.refused(x, STATE, y -> y.undo());
        Edge.due(x.day(), 0);
        Edge.due(x.undo(), 0);
        Edge.refused(x, STATE, y -> y.undo());
    }

    static void promise05_whatWasKeptIsGone() {
        PoundBeasts x = Edge.made("VP00");
        x.keep(0);
        x.keep(1);
        x.village();
        Edge.refused(x, STATE, y -> y.again(0));
        Edge.refused(x, STATE, y -> y.again(1));
    }

    static void promise05_theSeedStays() {
        PoundBeasts x = new PoundBeasts();
        x.seed(Long.MIN_VALUE);
        Edge.write(x, "VP00");
        x.village();
        Edge.due(x.seed(0), Long.MIN_VALUE);
    }

    static void promise05_theTextStays() {
        PoundBeasts x = Edge.made("VP00");
        Edge.due(x.count(0), 4);
        Edge.write(x, "P00");
        Edge.due(x.village(), 20);
    }

    static void promise05_aFaultIsRefused() {
        Edge.changesNothing(PoundBeasts::new, STATE, x -> x.village());
        Edge.changesNothing(TextEdges::shortText, STATE, x -> x.village());
        Edge.changesNothing(TextEdges::fullText, STATE, x -> x.village());
        Edge.changesNothing(Edge::rich, STATE, x -> x.village());
        Edge.changesNothing(Edge::late, STATE, x -> x.village());
    }
}
