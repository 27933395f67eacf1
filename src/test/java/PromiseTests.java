/** Each promise by itself: ordinary inputs, the edges that the document names, wrong inputs. */
public final class PromiseTests {
    private static final int UNKNOWN = PoundBeasts.UNKNOWN, OUTSIDE = PoundBeasts.OUTSIDE;
    private static final int STATE = PoundBeasts.STATE, FULL = PoundBeasts.FULL, NONE = PoundBeasts.NONE;
    private static final int[] NO_NUMBERS = {-1, 9, Integer.MIN_VALUE, Integer.MAX_VALUE};
    private static int wrong;

    private static void due(String call, long got, long want) {
        if (got != want) {
            wrong++;
            System.out.println(call + " answered " + got + ", due is " + want);
        }
    }

    private static void writeAll(PoundBeasts x, String text) {
        x.wipe();
        for (int i = 0; i < text.length(); i++) {
            due("write " + text.charAt(i), x.write(text.charAt(i)), i + 1);
        }
    }

    private static PoundBeasts made(String text) {
        PoundBeasts x = new PoundBeasts();
        writeAll(x, text);
        int people = (int) text.chars().filter(c -> c == 'P').count();
        int beasts = (int) text.chars().filter(c -> c == 'B').count();
        due("village of " + text, x.village(), 10 * people + beasts);
        return x;
    }

    private static void days(PoundBeasts x, int n) {
        for (int i = 0; i < n; i++) {
            x.day();
        }
    }

    public static void main(String[] args) {
        newObject();
        text();
        faults();
        villageMade();
        people();
        beasts();
        owes();
        drive();
        march();
        day();
        pay();
        breakOut();
        forfeit();
        undo();
        clause();
        worth();
        take();
        each();
        share();
        ringAndClose();
        judge();
        who();
        suspects();
        rests();
        chance();
        seedAndVillages();
        slots();
        count();
        neverThrows();
        System.out.println(wrong == 0 ? "all promises are kept" : wrong + " answers are not as due");
        if (wrong != 0) {
            System.exit(1);
        }
    }

    // Promise 1
    private static void newObject() {
        PoundBeasts x = new PoundBeasts();
        for (int what = 0; what <= 7; what++) {
            due("1 count " + what, x.count(what), 0);
        }
        due("1 person", x.person(0, 0), UNKNOWN);
        due("1 beast", x.beast(0, 0), UNKNOWN);
        due("1 each", x.each(false), 0);
        due("1 seed", x.seed(5), 0);
        due("1 again", x.again(0), STATE);
        due("1 undo", x.undo(), STATE);
    }

    // Promises 2 and 3
    private static void text() {
        PoundBeasts x = new PoundBeasts();
        due("2 below", x.write(-1), OUTSIDE);
        due("2 above", x.write(256), OUTSIDE);
        due("2 least", x.write(0), 1);
        due("2 most", x.write(255), 2);
        due("3 wipe", x.wipe(), 2);
        due("3 again", x.wipe(), 0);
        for (int i = 1; i <= 56; i++) {
            due("2 letter", x.write('V'), i);
        }
        due("2 full", x.write('V'), FULL);
        due("2 outside comes ahead of full", x.write(256), OUTSIDE);
        due("2 unchanged", x.count(0), 56);
        due("3 all", x.wipe(), 56);
        due("3 empty", x.count(0), 0);
        due("2 anew", x.write('V'), 1);
        due("3 the village stays", made("VP12").wipe(), 4);
    }

    private static void fault(String text, int want) {
        PoundBeasts x = new PoundBeasts();
        writeAll(x, text);
        due("4 fault of " + text, x.fault(), want);
        due("5 village of " + text, x.village() == STATE ? 1 : 0, want == NONE ? 0 : 1);
    }

    // Promise 4
    private static void faults() {
        fault("", 0);
        fault("v", 0);
        fault("V", NONE);
        fault("VV", 1);
        fault("VP", 2);
        fault("VP9", 3);
        fault("VP09", NONE);
        fault("VP:0", 2);
        fault("VP0/", 3);
        fault("VP00p", 4);
        fault("VP00P00P00P00", NONE);
        fault("VP00P00P00P00P", 13);
        fault("VB", 1);
        fault("VP00B", 5);
        fault("VP00B0", 6);
        fault("VP00B1", 5);
        fault("VP00B00", 6);
        fault("VP00B01", 7);
        fault("VP00B014", 7);
        fault("VP00B013", NONE);
        fault("VP00B093B010B011B012B013", NONE);
        fault("VP00B093B010B011B012B013B", 24);
        fault("VP00D", 4);
        fault("VP00P00D", 8);
        fault("VP00P00D2", 8);
        fault("VP00P00D00", 9);
        fault("VP00P00D02", 9);
        fault("VP00P00D010", 10);
        fault("VP00P00D011", NONE);
        fault("VP00P00D011D0", 12);
        fault("VP00P00D011D1", 13);
        fault("VP00P00D011D101", NONE);
        fault("VP00P00D011D101D", 15);
        fault("VP00P00D011D101P00D01", 20);
        fault("VP00P00D011D101P00D022D0", 23);
        fault("VP00P00P00P00D011D021D031D101D121D131D201D211D231D301D3", 55);
        fault("VP00P00P00P00D011D021D031D101D121D131D201D211D231D301D30", 55);
        fault("VP00P00P00P00D011D021D031D101D121D131D201D211D231D301D31", 56);
    }

    // Promise 5
    private static void villageMade() {
        PoundBeasts x = made("VP25P08B051D018");
        x.day();
        x.keep(0);
        x.keep(1);
        x.seed(77);
        due("5 anew", x.village(), 21);
        due("5 the day", x.count(3), 0);
        due("5 the acts", x.count(7), 0);
        due("5 slot 0 is gone", x.again(0), STATE);
        due("5 slot 1 is gone", x.again(1), STATE);
        due("5 the seed stays", x.seed(77), 77);
        x.day();
        x.keep(1);
        x.write('P');
        due("5 a fault", x.village(), STATE);
        due("5 nothing changed", x.count(1) + 10 * x.count(3) + 100 * x.count(7), 112);
        due("5 slot 1 is still there", x.again(1), 1);
        writeAll(x, "V");
        due("5 nobody", x.village(), 0);
        due("5 no beast is left", x.beast(0, 0), UNKNOWN);
        due("5 no debt is left", x.count(6), 0);
        due("5 all", made("VP00P00P00P00B093B010B011B012B013").count(2), 5);
    }

    // Promise 6
    private static void people() {
        PoundBeasts x = made("VP25P08P91B051B192B140B073D018D203D123D104");
        due("6 hay", x.person(0, 0), 2);
        due("6 money", x.person(1, 1), 8);
        due("6 beasts", x.person(0, 2), 9);
        due("6 no beasts", x.person(2, 2), 0);
        due("6 owes all", x.person(1, 3), 7);
        due("6 is owed", x.person(0, 4), 7);
        due("6 is owed", x.person(2, 4), 3);
        due("6 outside", x.person(0, 5), OUTSIDE);
        due("6 outside", x.person(0, -1), OUTSIDE);
        due("6 unknown", x.person(3, 0), UNKNOWN);
        due("6 unknown first", x.person(-1, 5), UNKNOWN);
        x = made("VP00P00B010D011");
        x.drive(1, 0);
        x.day();
        due("6 dead ones, too", x.person(0, 2), 1);
    }

    // Promise 7
    private static void beasts() {
        PoundBeasts x = made("VP10P00B050B192D019");
        due("7 owner", x.beast(1, 0), 1);
        due("7 worth", x.beast(1, 1), 9);
        due("7 kind", x.beast(1, 2), 2);
        due("7 nobody's", x.beast(0, 3), NONE);
        due("7 no days", x.beast(0, 4), 0);
        x.drive(1, 0);
        due("7 for whom", x.beast(0, 3), 1);
        due("7 no days yet", x.beast(0, 4), 0);
        days(x, 2);
        due("7 days", x.beast(0, 4), 2);
        due("7 worth", x.beast(0, 1), 4);
        due("7 alive", x.beast(0, 5), 0);
        days(x, 4);
        due("7 dead", x.beast(0, 5), 1);
        due("7 not shut in any more", x.beast(0, 3), NONE);
        due("7 no days any more", x.beast(0, 4), 0);
        due("7 outside", x.beast(0, 6), OUTSIDE);
        due("7 outside", x.beast(0, -1), OUTSIDE);
        due("7 unknown", x.beast(2, 0), UNKNOWN);
        due("7 unknown first", x.beast(-1, 6), UNKNOWN);
    }

    // Promise 8
    private static void owes() {
        PoundBeasts x = made("VP00P00P00D019D127");
        due("8", x.owes(0, 1), 9);
        due("8", x.owes(1, 0), 0);
        due("8", x.owes(1, 2), 7);
        due("8 itself", x.owes(1, 1), 0);
        due("8 unknown", x.owes(3, 0), UNKNOWN);
        due("8 unknown", x.owes(0, 3), UNKNOWN);
        due("8 unknown", x.owes(-1, 0), UNKNOWN);
    }

    // Promise 9
    private static void drive() {
        PoundBeasts x = made("VP00P00P00B050B073D018D022");
        due("9 its own", x.drive(0, 0), STATE);
        due("9 free", x.drive(1, 0), 0);
        due("9 for that one", x.beast(0, 3), 1);
        due("9 shut in already", x.drive(2, 0), STATE);
        due("9 guest", x.drive(1, 1), 6);
        due("9 owes its worth", x.owes(1, 0), 7);
        due("9 it stays", x.beast(1, 3), NONE);
        due("9 acts", x.count(7), 2);
        due("9 owes it once more", x.drive(1, 1), 6);
        due("9 owes it twice", x.owes(1, 0), 14);
        for (int i = 0; i < 11; i++) {
            x.drive(1, 1);
        }
        due("9 nearly all", x.owes(1, 0), 91);
        x.drive(1, 1);
        due("9 98", x.owes(1, 0), 98);
        due("9 over the most", x.drive(1, 1), 6);
        due("9 99 at most", x.owes(1, 0), 99);
        due("9 unknown person", x.drive(3, 0), UNKNOWN);
        due("9 unknown beast", x.drive(0, 2), UNKNOWN);
        due("9 not owed", made("VP00P00P00B050D018").drive(2, 0), STATE);
    }

    // MARCH, by promises 9 and 15
    private static void march() {
        PoundBeasts x = made("VP00P00B091D019");
        for (int day = 0; day < 30; day++) {
            int want = day % 12 < 3 ? 5 : 0;
            due("15 march on day " + day, x.clause(1, 0), want);
            due("9 march on day " + day, x.drive(1, 0), want == 5 ? STATE : 0);
            if (want == 0) {
                x.undo();
            }
            x.day();
        }
    }

    // Promise 10
    private static void day() {
        PoundBeasts x = made("VP30P00B050B052B030D019");
        x.drive(1, 0);
        x.drive(1, 1);
        due("10 two", x.day(), 2);
        due("10 hay", x.person(0, 0), 1);
        due("10 fed", x.beast(0, 1) * 10 + x.beast(1, 1), 55);
        due("10 one goes without", x.day(), 2);
        due("10 by number", x.beast(0, 1) * 10 + x.beast(1, 1), 53);
        due("10 no hay", x.day(), 2);
        due("10 cow and sheep", x.beast(0, 1) * 10 + x.beast(1, 1), 41);
        due("10 the sheep dies", x.day(), 1);
        due("10 0 at least", x.beast(1, 1), 0);
        due("10 dead", x.count(5), 2);
        due("10 the cow lives", x.beast(0, 1), 3);
        due("10 a beast at home stays", x.beast(2, 1), 3);
        due("10 the day", x.count(3), 4);
        due("10 days", x.beast(0, 4), 4);
        due("10 acts", x.count(7), 6);
        due("10 nobody", new PoundBeasts().day(), 0);
        x = made("VP00P90B050D019");
        x.drive(1, 0);
        x.day();
        due("10 its owner feeds it, not its holder", x.beast(0, 1) * 10 + x.person(1, 0), 49);
    }

    // Promise 11
    private static void pay() {
        PoundBeasts x = made("VP09P01P05B050B060B070D014D029D211");
        x.drive(1, 0);
        x.drive(2, 1);
        x.day();
        due("11 unknown", x.pay(3, 0, 1), UNKNOWN);
        due("11 unknown", x.pay(0, 3, 1), UNKNOWN);
        due("11 unknown first", x.pay(3, 3, 0), UNKNOWN);
        due("11 both are one", x.pay(0, 0, 1), OUTSIDE);
        due("11 n is 0", x.pay(0, 1, 0), OUTSIDE);
        due("11 n is 10", x.pay(0, 1, 10), OUTSIDE);
        due("11 owes less", x.pay(0, 1, 5), STATE);
        due("11 owes nothing", x.pay(1, 0, 1), STATE);
        due("11 nothing changed", x.count(7), 3);
        due("11 some", x.pay(0, 1, 3), 1);
        due("11 still shut in", x.beast(0, 3), 1);
        due("11 money gone", x.person(0, 1), 6);
        due("11 money come", x.person(1, 1), 4);
        due("11 has less", x.pay(0, 2, 7), STATE);
        due("11 all", x.pay(0, 1, 1), 0);
        due("11 it goes home", x.beast(0, 3) * 10 + x.beast(0, 4), NONE * 10);
        due("11 the other stays", x.beast(1, 3), 2);
        due("11 its days, too", x.beast(1, 4), 1);
        due("11 all it has", x.pay(0, 2, 5), 4);
        due("11 has nothing", x.person(0, 1), 0);
        due("11 cannot", x.pay(0, 2, 1), STATE);
        due("11 more than 9 of money", x.person(2, 1), 10);
        x = made("VP09P09B050B150D011D101");
        x.drive(1, 0);
        x.drive(0, 1);
        due("11 only its own go home", x.pay(0, 1, 1), 0);
        due("11 the other's stays", x.count(4), 2);
    }

    // Promise 12
    private static void breakOut() {
        PoundBeasts x = made("VP90P00P00B050D019D029");
        due("12 unknown", x.breakOut(1), UNKNOWN);
        due("12 unknown", x.breakOut(-1), UNKNOWN);
        due("12 at home", x.breakOut(0), STATE);
        x.drive(2, 0);
        x.day();
        due("12 for whom", x.breakOut(0), 2);
        due("12 owes 3 more", x.owes(0, 2), 12);
        due("12 the other not", x.owes(0, 1), 9);
        due("12 at home", x.beast(0, 3), NONE);
        due("12 no days", x.beast(0, 4), 0);
        due("12 acts", x.count(7), 3);
        for (int i = 0; i < 29; i++) {
            x.drive(1, 0);
            due("12 for whom", x.breakOut(0), 1);
        }
        due("12 96", x.owes(0, 1), 96);
        x.drive(1, 0);
        x.breakOut(0);
        due("12 99", x.owes(0, 1), 99);
        x.drive(1, 0);
        due("12 over the most", x.breakOut(0), 1);
        due("12 99 at most", x.owes(0, 1), 99);
    }

    // Promise 13
    private static void forfeit() {
        PoundBeasts x = made("VP90P00B050B060D017");
        due("13 unknown", x.forfeit(2), UNKNOWN);
        due("13 at home", x.forfeit(0), STATE);
        x.drive(1, 0);
        x.drive(1, 1);
        days(x, 2);
        due("13 two days", x.forfeit(0), STATE);
        x.day();
        due("13 three days", x.forfeit(0), 0);
        due("13 its owner", x.beast(0, 0), 1);
        due("13 at home", x.beast(0, 3) + x.beast(0, 4), NONE);
        due("13 owes less", x.owes(0, 1), 2);
        due("13 owes none the other way", x.owes(1, 0), 0);
        due("13 nothing is paid", x.person(0, 1) + x.person(1, 1), 0);
        x.day();
        due("13 longer", x.forfeit(1), 0);
        due("13 0 at least", x.owes(0, 1), 0);
        due("13 its beasts", x.person(1, 2), 3);
        due("13 once", x.forfeit(1), STATE);
        x = made("VP90P00B090B060D013");
        x.drive(1, 0);
        x.drive(1, 1);
        days(x, 3);
        x.forfeit(0);
        due("13 the other stays shut in though nothing is owed", x.beast(1, 3), 1);
        due("13 and is broken out of that", x.breakOut(1), 1);
        due("13 for 3", x.owes(0, 1), 3);
        due("13 back to an owner that owes nothing", x.clause(0, 0), 4);
        due("13 its own now", x.clause(1, 0), 1);
    }

    // Few calls, since nothing is promised of an object beyond its 512th.
    private static String seen(PoundBeasts x) {
        StringBuilder all = new StringBuilder();
        int people = x.count(1);
        int beasts = x.count(2);
        for (int person = 0; person < people; person++) {
            all.append(x.person(person, 0)).append(' ').append(x.person(person, 1)).append(' ');
            for (int other = 0; other < people; other++) {
                all.append(x.owes(person, other)).append(' ');
            }
        }
        for (int beast = 0; beast < beasts; beast++) {
            for (int what = 0; what <= 4; what++) {
                all.append(x.beast(beast, what)).append(' ');
            }
        }
        return all.append(x.count(3)).toString();
    }

    private static void sameAs(String call, PoundBeasts x, String before) {
        String now = seen(x);
        if (!now.equals(before)) {
            wrong++;
            System.out.println(call + ": " + now + ", due is " + before);
        }
    }

    // Promise 14
    private static void undo() {
        PoundBeasts x = made("VP19P00B050B043B022D019");
        String start = seen(x);
        x.drive(1, 0);
        String driven = seen(x);
        x.drive(1, 1);
        String guest = seen(x);
        days(x, 3);
        String waited = seen(x);
        x.forfeit(0);
        String kept = seen(x);
        x.drive(1, 2);
        String again = seen(x);
        x.breakOut(2);
        String out = seen(x);
        x.pay(0, 1, 5);
        due("14 pay", x.undo(), 8);
        sameAs("14 pay", x, out);
        due("14 break out", x.undo(), 7);
        sameAs("14 break out", x, again);
        due("14 drive", x.undo(), 6);
        sameAs("14 drive", x, kept);
        due("14 keep", x.undo(), 5);
        sameAs("14 keep", x, waited);
        x.undo();
        x.undo();
        due("14 days", x.undo(), 2);
        sameAs("14 days", x, guest);
        due("14 guest", x.undo(), 1);
        sameAs("14 guest", x, driven);
        due("14 first", x.undo(), 0);
        sameAs("14 first", x, start);
        due("14 none", x.undo(), STATE);
        x = made("VP19P00B050B043B022D019");
        days(x, 14);
        due("14 14 acts", x.count(7), 14);
        x.day();
        due("14 14 at most", x.count(7), 14);
        for (int left = 13; left >= 0; left--) {
            due("14 one of 14", x.undo(), left);
        }
        due("14 the first is forgotten", x.undo(), STATE);
        due("14 one day remains", x.count(3), 1);
        days(x, 20);
        x.undo();
        x.undo();
        x.day();
        due("14 on and back", x.undo(), 12);
        due("14 the day", x.count(3), 19);
        x.drive(0, 0);
        due("14 what was refused is no act", x.count(7), 12);
    }

    // Promise 15
    private static void clause() {
        PoundBeasts x = made("VP00P00P00B010B051B093B050D019D022");
        due("15 own", x.clause(0, 2), 1);
        due("15 not owed", made("VP00P00B013").clause(1, 0), 4);
        due("15 ox", x.clause(1, 1), 5);
        due("15 guest", x.clause(1, 2), 6);
        due("15 none", x.clause(1, 3), 0);
        x.drive(2, 0);
        due("15 shut in", x.clause(1, 0), 3);
        due("15 shut in for that one", x.clause(2, 0), 3);
        due("15 own comes first", x.clause(0, 0), 1);
        x.day();
        due("15 dead", x.clause(1, 0), 2);
        due("15 own comes ahead of dead", x.clause(0, 0), 1);
        due("15 unknown", x.clause(3, 0), UNKNOWN);
        due("15 unknown", x.clause(0, 4), UNKNOWN);
        due("15 unknown", x.clause(-1, -1), UNKNOWN);
        due("15 not owed comes ahead of the ox", made("VP00P00B011").clause(1, 0), 4);
        due("15 the ox that is shut in", shutOx().clause(2, 0), 3);
    }

    private static PoundBeasts shutOx() {
        PoundBeasts x = made("VP90P00P00B091D019");
        days(x, 3);
        x.drive(1, 0);
        days(x, 9);
        return x;
    }

    // Promise 16
    private static void worth() {
        PoundBeasts x = made("VP20P00B050B052B040D019");
        x.drive(1, 0);
        x.drive(1, 1);
        due("16 now", x.worth(0, 0), 5);
        due("16 fed", x.worth(1, 1), 5);
        due("16 cow", x.worth(0, 2), 4);
        due("16 sheep", x.worth(1, 2), 3);
        due("16 sheep", x.worth(1, 3), 1);
        due("16 dead", x.worth(1, 4), 0);
        due("16 dead long since", x.worth(0, 9), 0);
        due("16 at home", x.worth(2, 9), 4);
        due("16 nothing changes", x.count(3) + x.person(0, 0), 2);
        due("16 n", x.worth(0, 10), OUTSIDE);
        due("16 n", x.worth(0, -1), OUTSIDE);
        due("16 unknown", x.worth(3, 10), UNKNOWN);
        x = made("VP40P00B090B010D019");
        x.drive(1, 0);
        x.drive(1, 1);
        due("16 the dead one eats no more", x.worth(0, 4), 7);
        x = made("VP30P00B010B090D019");
        x.drive(1, 0);
        x.drive(1, 1);
        due("16 hay by number", x.worth(1, 2), 8);
        due("16 hay by number", x.worth(0, 2), 1);
    }

    private static void taken(String text, int person, int debtor, int which, int owed) {
        PoundBeasts x = made(text);
        String before = seen(x);
        due("17 which of " + text, x.take(person, debtor, false), which);
        due("17 owed of " + text, x.take(person, debtor, true), owed);
        sameAs("17 nothing changes", x, before);
    }

    // Promise 17
    private static void take() {
        taken("VP00P00B050B090D019", 1, 0, 1, 3);
        taken("VP90P00B050B090D019", 1, 0, 1, 0);
        taken("VP90P00B090B080B070D017", 1, 0, 2, 0);
        taken("VP90P00B070B070D017", 1, 0, 0, 0);
        taken("VP00P00B030B020D015", 1, 0, 1, 5);
        taken("VP00P00B062B040D019", 1, 0, 1, 8);
        taken("VP20P00B062B040D019", 1, 0, 0, 5);
        taken("VP90P00B053B091D019", 1, 0, NONE, NONE);
        taken("VP90P00B050D019", 0, 1, NONE, NONE);
        taken("VP90P00P00B050B190D019D127D029", 2, 0, 0, 4);
        PoundBeasts x = made("VP30P00P00B090B080D019D029");
        x.drive(2, 0);
        due("17 the hay is shared", x.take(1, 0, true), 3);
        due("17 the one that is shut in is not there", x.take(1, 0, false), 1);
        due("17 unknown", x.take(3, 0, true), UNKNOWN);
        due("17 unknown", x.take(0, 3, false), UNKNOWN);
        due("17 unknown first", x.take(3, 3, false), UNKNOWN);
        due("17 both are one", x.take(1, 1, false), OUTSIDE);
    }

    private static void eachOf(String text, int most, int way) {
        PoundBeasts x = made(text);
        due("18 most of " + text, x.each(false), most);
        due("18 way of " + text, x.each(true), way);
    }

    // Promise 18
    private static void each() {
        due("18 nobody", new PoundBeasts().each(true), 0);
        eachOf("VP00", 0, 0);
        eachOf("VP00P00B010D011", 1, 1);
        eachOf("VP00P00B110D101", 1, 10);
        eachOf("VP00P00P00P00B010B020D011D021D031", 2, 12);
        eachOf("VP00P00P00B010B020D011D021", 2, 12);
        eachOf("VP00P00P00P00B010B110B020D011D021D121D131", 3, 132);
        eachOf("VP00P00P00P00B010B020B030D011D021D031", 3, 123);
        eachOf("VP00P00P00P00B010B110B030D011D121D101D131", 2, 102);
        eachOf("VP00P00P00P00B010B110B210B310D011D121D231D301", 4, 4123);
        eachOf("VP00P00P00P00B310B310B310B310B310D301D311D321", 3, 1230);
        eachOf("VP00P00B013B011D019", 0, 0);
    }

    private static void shareOf(String text, int person, int above, int below) {
        PoundBeasts x = made(text);
        due("19 above, " + person + " of " + text, x.share(person, true), above);
        due("19 below, " + person + " of " + text, x.share(person, false), below);
    }

    // Promise 19
    private static void share() {
        shareOf("VP00", 0, 0, 1);
        shareOf("VP00P00B010D011", 0, 0, 1);
        shareOf("VP00P00B010D011", 1, 1, 1);
        shareOf("VP00P00P00B010D011D021", 1, 1, 2);
        shareOf("VP00P00P00P00B010D011D021D031", 3, 1, 3);
        shareOf("VP00P00P00P00B010B020D011D021D031", 2, 2, 3);
        shareOf("VP00P00P00P00B010B110D011D021D031D121", 2, 1, 1);
        shareOf("VP00P00P00P00B010B110D011D021D031D121", 1, 1, 2);
        PoundBeasts x = made("VP00P00");
        due("19 unknown", x.share(2, true), UNKNOWN);
        due("19 unknown below", x.share(-1, false), UNKNOWN);
    }

    private static void ringOf(String text, int person, int ring, int close) {
        PoundBeasts x = made(text);
        due("20 ring, " + person + " of " + text, x.ring(person), ring);
        due("21 close, " + person + " of " + text, x.close(person), close);
    }

    // Promises 20 and 21
    private static void ringAndClose() {
        ringOf("VP00", 0, NONE, NONE);
        ringOf("VP00P00D015", 0, NONE, NONE);
        ringOf("VP00P00D015D103", 0, 12, 3);
        ringOf("VP00P00D015D103", 1, 21, 3);
        ringOf("VP00P00P00D015D124D209", 0, 123, 4);
        ringOf("VP00P00P00D015D124D209", 1, 231, 4);
        ringOf("VP00P00P00D015D124D209", 2, 312, 4);
        ringOf("VP00P00P00D015D124D209D022", 0, 13, 2);
        ringOf("VP00P00P00P00D039D027D019D301D202D103", 0, 12, 3);
        ringOf("VP00P00P00P00D039D319D028D218D105", 0, 132, 5);
        ringOf("VP00P00P00P00D019D129D239D308", 3, 4123, 8);
        ringOf("VP00P00P00P00D039D329D219D108", 0, 1432, 8);
        ringOf("VP00P00P00P00D019D129D219", 0, NONE, NONE);
        ringOf("VP00P00P00P00D019D129D219", 1, 23, 9);
        PoundBeasts x = made("VP09P00D015D103");
        x.pay(0, 1, 5);
        due("20 a debt that is paid", x.ring(0), NONE);
        due("20 unknown", x.ring(2), UNKNOWN);
        due("20 unknown", x.ring(-1), UNKNOWN);
        due("21 unknown", x.close(2), UNKNOWN);
        due("21 unknown", x.close(-1), UNKNOWN);
    }

    // Promise 22
    private static void judge() {
        PoundBeasts x = made("VP90P00P00B050B053B051D019D021");
        String before = seen(x);
        due("22 n", x.judge(0, 0), OUTSIDE);
        due("22 n", x.judge(5, 3), OUTSIDE);
        due("22 row", x.judge(1, -1), OUTSIDE);
        due("22 row", x.judge(1, Long.MIN_VALUE), OUTSIDE);
        due("22 too long", x.judge(1, 1000), OUTSIDE);
        due("22 too long", x.judge(4, 1_000_000_000_000L), OUTSIDE);
        due("22 not too long", x.judge(4, 999_999_999_999L), 0);
        due("22 too long", x.judge(4, Long.MAX_VALUE), OUTSIDE);
        due("22 a day", x.judge(1, 3), NONE);
        due("22 days", x.judge(4, 3003003003L), NONE);
        due("22 driven", x.judge(1, 210), NONE);
        due("22 own", x.judge(1, 110), 0);
        due("22 a guest", x.judge(1, 220), 0);
        due("22 in march", x.judge(1, 230), 0);
        due("22 behind march", x.judge(4, 3003003230L), NONE);
        due("22 twice", x.judge(2, 210310), 1);
        due("22 broken out", x.judge(3, 210011310), NONE);
        due("22 not shut in", x.judge(1, 11), 0);
        due("22 too early", x.judge(4, 210003003012L), 3);
        due("22 no such person", x.judge(1, 410), 0);
        due("22 no such beast", x.judge(1, 240), 0);
        due("22 no such beast", x.judge(1, 41), 0);
        due("22 no such beast", x.judge(1, 42), 0);
        due("22 nobody drives", x.judge(1, 10), 0);
        due("22 nothing is driven", x.judge(1, 200), 0);
        due("22 no such thing", x.judge(1, 0), 0);
        due("22 no such thing", x.judge(1, 4), 0);
        due("22 no such thing", x.judge(2, 3009), 1);
        due("22 a day of somebody's", x.judge(1, 103), 0);
        due("22 a day of a beast's", x.judge(1, 13), 0);
        due("22 broken out by somebody", x.judge(2, 210111), 1);
        sameAs("22 nothing changes", x, before);
        x.drive(1, 0);
        days(x, 2);
        due("22 kept by somebody", x.judge(2, 3112), 1);
        due("22 kept", x.judge(2, 3012), NONE);
        due("22 its own then", x.judge(3, 3012210), 2);
        due("22 not again", x.judge(3, 3012011), 2);
        due("22 nobody", new PoundBeasts().judge(1, 3), NONE);
    }

    // Promise 23
    private static void who() {
        PoundBeasts x = made("VP00P00P00B010B110B050D011D021D121");
        due("23 none told", x.who(0), 7);
        due("23 one", x.who(1), 6);
        due("23 two", x.who(3), 4);
        due("23 of one owner", x.who(5), 6);
        due("23 all", x.who(7), 4);
        due("23 outside", x.who(8), OUTSIDE);
        due("23 outside", x.who(-1), OUTSIDE);
        x.drive(1, 0);
        due("23 shut in", x.who(1), 0);
        due("23 guests and oxen", made("VP00P00B013B011D019").who(1), 0);
        due("23 guests and oxen", made("VP00P00B013B011D019").who(2), 0);
    }

    private static void suspectsOf(String text, int beasts, int sets, int all, int none) {
        PoundBeasts x = made(text);
        due("24 sets " + beasts + " of " + text, x.suspects(beasts, 0), sets);
        due("24 in all " + beasts + " of " + text, x.suspects(beasts, 1), all);
        due("24 in none " + beasts + " of " + text, x.suspects(beasts, 2), none);
    }

    // Promise 24
    private static void suspects() {
        String text = "VP00P00P00P00B010B110D011D021D129D131";
        suspectsOf(text, 0, 1, 0, 15);
        suspectsOf(text, 1, 3, 0, 9);
        suspectsOf(text, 2, 3, 0, 3);
        suspectsOf(text, 3, 5, 0, 1);
        suspectsOf("VP00P00P00B010B110D011D021D129", 3, 2, 4, 1);
        suspectsOf("VP00P00P00B010B213D019D209", 2, 0, NONE, NONE);
        suspectsOf("VP00P00P00B010B213D019D209", 3, 0, NONE, NONE);
        suspectsOf("VP00P00B010D019", 1, 1, 2, 1);
        PoundBeasts x = made(text);
        due("24 beasts", x.suspects(4, 0), OUTSIDE);
        due("24 beasts", x.suspects(-1, 0), OUTSIDE);
        due("24 what", x.suspects(0, 3), OUTSIDE);
        due("24 what", x.suspects(0, -1), OUTSIDE);
        due("24 nobody", new PoundBeasts().suspects(0, 2), 0);
    }

    private static void restsOf(String text, int rests, int first) {
        PoundBeasts x = made(text);
        due("25 rests of " + text, x.rests(0, 1, 0), rests);
        due("25 first of " + text, x.rests(0, 1, 1), first);
    }

    // Promise 25
    private static void rests() {
        restsOf("VP00P00D019", 1, 0);
        restsOf("VP00P00B090D019", 1, 1);
        restsOf("VP00P00B010D019", 2, 0);
        restsOf("VP00P00B050B090D019", 1, 2);
        restsOf("VP00P00B050B090D014", 2, 1);
        restsOf("VP00P00B090D013", 0, NONE);
        restsOf("VP00P00B030D013", 1, 1);
        restsOf("VP00P00B020D013", 1, 1);
        restsOf("VP00P00B090D011", 1, 0);
        restsOf("VP00P00B090D012", 0, NONE);
        restsOf("VP00P00B093B091D019", 1, 0);
        restsOf("VP00P00B030D101", NONE, NONE);
        PoundBeasts x = made("VP00P00B050D019");
        due("25 unknown", x.rests(2, 0, 0), UNKNOWN);
        due("25 unknown", x.rests(0, 2, 0), UNKNOWN);
        due("25 unknown first", x.rests(2, 2, 2), UNKNOWN);
        due("25 both are one", x.rests(0, 0, 0), OUTSIDE);
        due("25 what", x.rests(0, 1, 2), OUTSIDE);
        due("25 what", x.rests(0, 1, -1), OUTSIDE);
        due("25 what comes ahead of none", x.rests(1, 0, 2), OUTSIDE);
    }

    private static void chanceOf(PoundBeasts x, int m, int tenths, int above, int below) {
        due("26 above " + m + " by " + tenths, x.chance(m, tenths, true), above);
        due("26 below " + m + " by " + tenths, x.chance(m, tenths, false), below);
    }

    // Promise 26
    private static void chance() {
        PoundBeasts x = made("VP90P00B050B050B050B050B050D019");
        chanceOf(x, 0, 5, 1, 1);
        chanceOf(x, 1, 5, 0, 1);
        x.drive(1, 0);
        chanceOf(x, 1, 3, 3, 10);
        chanceOf(x, 0, 4, 3, 5);
        chanceOf(x, 2, 10, 0, 1);
        x.drive(1, 1);
        chanceOf(x, 1, 5, 1, 2);
        chanceOf(x, 1, 1, 9, 50);
        x.drive(1, 2);
        x.drive(1, 3);
        x.drive(1, 4);
        chanceOf(x, 5, 1, 1, 100000);
        chanceOf(x, 2, 3, 3087, 10000);
        chanceOf(x, 5, 10, 1, 1);
        chanceOf(x, 4, 10, 0, 1);
        chanceOf(x, 0, 0, 1, 1);
        chanceOf(x, 1, 0, 0, 1);
        chanceOf(x, 6, 5, OUTSIDE, OUTSIDE);
        chanceOf(x, -1, 5, OUTSIDE, OUTSIDE);
        chanceOf(x, 0, 11, OUTSIDE, OUTSIDE);
        chanceOf(x, 0, -1, OUTSIDE, OUTSIDE);
    }

    // Promises 27 and 28
    private static void seedAndVillages() {
        PoundBeasts x = made("VP00P00B090D019");
        due("27 at first", x.seed(Long.MIN_VALUE), 0);
        due("27 then", x.seed(0), Long.MIN_VALUE);
        due("28 m", x.villages(0), OUTSIDE);
        due("28 m", x.villages(31), OUTSIDE);
        due("28 refused: the seed stays", x.seed(0), 0);
        due("28 nothing driven", x.villages(1), 9);
        due("28 the seed", x.seed(0), 1442695040888963407L);
        due("28 thirty times", x.villages(30) >= 0 ? 1 : 0, 1);
        long seed = 0;
        for (int i = 0; i < 30; i++) {
            seed = seed * 6364136223846793005L + 1442695040888963407L;
        }
        due("28 the seed", x.seed(seedThatDraws(6)), seed);
        // The cow is driven by 1 and is worth 6 when it is kept: 3 are owed.
        String before = seen(x);
        int owed = x.villages(3);
        due("28 kept behind the third day", owed, 3);
        sameAs("28 nothing changes", x, before);
        x.seed(seedThatDraws(6));
        due("28 not kept behind the second", x.villages(2), 9);
        due("28 no act", x.count(7), 0);
        due("28 nobody", new PoundBeasts().villages(30), 0);
    }

    /** A seed from which the first number drawn is n. */
    private static long seedThatDraws(int n) {
        long seed = 0;
        while ((seed * 6364136223846793005L + 1442695040888963407L >>> 33) % 30 != n) {
            seed++;
        }
        return seed;
    }

    // Promises 29 and 30
    private static void slots() {
        PoundBeasts x = made("VP29P00B050B062D019");
        due("29 unknown", x.keep(2), UNKNOWN);
        due("29 unknown", x.keep(-1), UNKNOWN);
        due("30 unknown", x.again(2), UNKNOWN);
        due("30 unknown", x.again(-1), UNKNOWN);
        due("30 none", x.again(0), STATE);
        x.drive(1, 0);
        x.day();
        String before = seen(x);
        due("29 the day", x.keep(0), 1);
        due("29 the acts stay", x.count(7), 2);
        due("30 the other", x.again(1), STATE);
        x.seed(4);
        x.pay(0, 1, 3);
        x.drive(1, 1);
        days(x, 5);
        x.forfeit(0);
        String later = seen(x);
        due("29 the day", x.keep(1), 6);
        due("30 the day", x.again(0), 1);
        sameAs("30 as it was kept", x, before);
        due("30 the acts", x.count(7), 0);
        due("30 no act", x.undo(), STATE);
        due("30 the seed stays", x.seed(4), 4);
        x.day();
        due("30 once more", x.again(0), 1);
        sameAs("30 as it was kept", x, before);
        due("30 the later", x.again(1), 6);
        sameAs("30 as it was kept later", x, later);
        due("29 over it", x.keep(0), 6);
        x.day();
        due("30 over it", x.again(0), 6);
        x.day();
        x.undo();
        due("30 undone acts leave what is kept", x.again(1), 6);
    }

    // Promise 31
    private static void count() {
        PoundBeasts x = made("VP09P00P00B050B010B090D015D023D121");
        due("31 letters", x.count(0), 34);
        due("31 people", x.count(1), 3);
        due("31 beasts", x.count(2), 3);
        due("31 owed", x.count(6), 9);
        x.drive(1, 1);
        x.drive(2, 2);
        due("31 shut in", x.count(4), 6);
        due("31 none dead", x.count(5), 0);
        x.day();
        due("31 shut in", x.count(4), 4);
        due("31 dead", x.count(5), 2);
        due("31 the day", x.count(3), 1);
        x.pay(0, 1, 5);
        due("31 owed", x.count(6), 4);
        due("31 acts", x.count(7), 4);
        x.wipe();
        due("31 letters", x.count(0), 0);
        due("31 the village stays", x.count(1), 3);
        due("31 outside", x.count(8), OUTSIDE);
        due("31 outside", x.count(-1), OUTSIDE);
    }

    // LANGUAGE.md, rule 7: numbers that are nowhere near.
    private static void neverThrows() {
        PoundBeasts x = made("VP25P08P91P00B051B192B140B073B161D018D203D123D311D104");
        for (int a : NO_NUMBERS) {
            due("write", a == 9 ? OUTSIDE : x.write(a), OUTSIDE);
            due("person", x.person(a, 0), UNKNOWN);
            due("beast", x.beast(a, 0), UNKNOWN);
            due("what", x.person(0, a) + x.beast(0, a), 2 * OUTSIDE);
            due("owes", x.owes(a, 0) + x.owes(0, a), 2 * UNKNOWN);
            due("drive", x.drive(a, 0) + x.drive(0, a), 2 * UNKNOWN);
            due("pay", x.pay(a, 0, 1) + x.pay(0, a, 1), 2 * UNKNOWN);
            due("pay n", x.pay(0, 1, a), a == 9 ? STATE : OUTSIDE);
            due("breakOut", x.breakOut(a) + x.forfeit(a), 2 * UNKNOWN);
            due("clause", x.clause(a, 0) + x.clause(0, a), 2 * UNKNOWN);
            due("worth", x.worth(a, 0), UNKNOWN);
            due("worth n", x.worth(0, a), a == 9 ? 5 : OUTSIDE);
            due("take", x.take(a, 0, true) + x.take(0, a, true), 2 * UNKNOWN);
            due("share", x.share(a, true) + x.share(a, false), 2 * UNKNOWN);
            due("ring", x.ring(a) + x.close(a), 2 * UNKNOWN);
            due("judge", x.judge(a, 0), OUTSIDE);
            due("who", x.who(a), a == 9 ? 0 : OUTSIDE);
            due("suspects", x.suspects(0, a), OUTSIDE);
            due("rests", x.rests(a, 0, 0) + x.rests(0, a, 0), 2 * UNKNOWN);
            due("rests what", x.rests(0, 1, a), OUTSIDE);
            due("chance", x.chance(a, 0, true), OUTSIDE);
            due("chance x", x.chance(0, a, true), a == 9 ? 1 : OUTSIDE);
            due("slots", x.keep(a) + x.again(a), 2 * UNKNOWN);
            due("count", x.count(a), OUTSIDE);
        }
    }
}
