import java.util.Arrays;

/** A village where whoever is owed may drive off a debtor's beast and shut it in till he is paid. */
public final class PoundBeasts {
    public static final int UNKNOWN = -1, OUTSIDE = -2, STATE = -3, FULL = -4, NONE = -9;

    private static final int MOST_LETTERS = 56, MOST_PEOPLE = 4, MOST_BEASTS = 5;
    private static final int MOST_OWED = 99, MOST_ACTS = 14, SLOTS = 2;
    private static final int COW = 0, OX = 1, SHEEP = 2, GUEST = 3;
    private static final int DAYS_TILL_KEPT = 3, OWED_FOR_BREAKING_OUT = 3;
    private static final int FREE = 0, OWN = 1, DEAD = 2, SHUT_IN = 3, NOT_OWED = 4, PLOUGHING = 5, GUESTS = 6;
    private static final int MOST_PAID_AT_ONCE = 9, MOST_PAID_AT_REST = 3, MOST_DAYS_AHEAD = 9;
    private static final int MOST_THINGS = 4, MOST_ROUNDS = 30, TENTHS = 10;
    private static final long SEED_FACTOR = 6364136223846793005L, SEED_STEP = 1442695040888963407L;

    private final Script script = new Script();
    private final Village village = new Village();
    // What is only tried out happens here, so that the village itself stays as it is.
    private final Village trial = new Village();
    private final Acts acts = new Acts();
    private final Matching matching = new Matching();
    private final Rings rings = new Rings();
    private final Bargain bargain = new Bargain();
    private final int[] slots = new int[SLOTS * Village.SIZE];
    private final int[] things = new int[MOST_THINGS];
    private int keptSlots;
    private long seed;

    public PoundBeasts() {
    }

    // ---- the village

    public int write(int letter) {
        if (letter < 0 || letter > 255) {
            return OUTSIDE;
        }
        return script.append(letter) ? script.length() : FULL;
    }

    public int wipe() {
        int length = script.length();
        script.clear();
        return length;
    }

    public int fault() {
        return script.readInto(trial);
    }

    public int village() {
        if (script.readInto(trial) != NONE) {
            return STATE;
        }
        village.copyFrom(trial);
        acts.clear();
        keptSlots = 0;
        return 10 * village.people() + village.beasts();
    }

    public int person(int person, int what) {
        if (!village.hasPerson(person)) {
            return UNKNOWN;
        }
        switch (what) {
            case 0:
                return village.hayOf(person);
            case 1:
                return village.moneyOf(person);
            case 2:
                return village.beastsOf(person);
            case 3:
                return village.owedBy(person);
            case 4:
                return village.owedTo(person);
            default:
                return OUTSIDE;
        }
    }

    public int beast(int beast, int what) {
        if (!village.hasBeast(beast)) {
            return UNKNOWN;
        }
        switch (what) {
            case 0:
                return village.ownerOf(beast);
            case 1:
                return village.worthOf(beast);
            case 2:
                return village.kindOf(beast);
            case 3:
                return village.holderOf(beast);
            case 4:
                return village.daysOf(beast);
            case 5:
                return village.isDead(beast) ? 1 : 0;
            default:
                return OUTSIDE;
        }
    }

    public int owes(int person, int other) {
        if (!village.hasPerson(person) || !village.hasPerson(other)) {
            return UNKNOWN;
        }
        return village.debt(person, other);
    }

    // ---- acts

    public int drive(int person, int beast) {
        if (!village.hasPerson(person) || !village.hasBeast(beast)) {
            return UNKNOWN;
        }
        int clause = village.clauseFor(person, beast);
        if (clause != FREE && clause != GUESTS) {
            return STATE;
        }
        acts.remember(village);
        if (clause == FREE) {
            village.shutIn(person, beast);
        } else {
            village.addDebt(person, village.ownerOf(beast), village.worthOf(beast));
        }
        return clause;
    }

    public int day() {
        acts.remember(village);
        village.passDay();
        return Integer.bitCount(village.shutBeasts());
    }

    public int pay(int person, int other, int n) {
        if (!village.hasPerson(person) || !village.hasPerson(other)) {
            return UNKNOWN;
        }
        if (person == other || n < 1 || n > MOST_PAID_AT_ONCE) {
            return OUTSIDE;
        }
        if (village.debt(person, other) < n || village.moneyOf(person) < n) {
            return STATE;
        }
        acts.remember(village);
        village.payDebt(person, other, n);
        return village.debt(person, other);
    }

    public int breakOut(int beast) {
        if (!village.hasBeast(beast)) {
            return UNKNOWN;
        }
        if (!village.isShut(beast)) {
            return STATE;
        }
        acts.remember(village);
        int holder = village.holderOf(beast);
        village.runHome(beast);
        return holder;
    }

    public int forfeit(int beast) {
        if (!village.hasBeast(beast)) {
            return UNKNOWN;
        }
        if (!village.isRipe(beast)) {
            return STATE;
        }
        acts.remember(village);
        int owner = village.ownerOf(beast);
        village.handOver(beast);
        return owner;
    }

    public int undo() {
        return acts.takeBack(village) ? acts.size() : STATE;
    }

    // ---- the law

    public int clause(int person, int beast) {
        if (!village.hasPerson(person) || !village.hasBeast(beast)) {
            return UNKNOWN;
        }
        return village.clauseFor(person, beast);
    }

    public int worth(int beast, int n) {
        if (!village.hasBeast(beast)) {
            return UNKNOWN;
        }
        if (n < 0 || n > MOST_DAYS_AHEAD) {
            return OUTSIDE;
        }
        trial.copyFrom(village);
        for (int passed = 0; passed < n; passed++) {
            trial.passDay();
        }
        return trial.worthOf(beast);
    }

    public int take(int person, int debtor, boolean owed) {
        if (!village.hasPerson(person) || !village.hasPerson(debtor)) {
            return UNKNOWN;
        }
        if (person == debtor) {
            return OUTSIDE;
        }
        int takable = village.takableBy(person) & village.beastsOf(debtor);
        int best = NONE;
        int leastOwed = NONE;
        for (int beast = 0; beast < village.beasts(); beast++) {
            if (!has(takable, beast)) {
                continue;
            }
            int left = owedAfterKeeping(person, debtor, beast);
            boolean better = best == NONE || left < leastOwed
                    || left == leastOwed && village.worthOf(beast) < village.worthOf(best);
            if (better) {
                best = beast;
                leastOwed = left;
            }
        }
        return owed ? leastOwed : best;
    }

    public int each(boolean way) {
        matching.look(village);
        return way ? matching.firstWay() : matching.most();
    }

    public int share(int person, boolean upper) {
        if (!village.hasPerson(person)) {
            return UNKNOWN;
        }
        matching.look(village);
        return fraction(matching.ordersWithGain(person), matching.orders(), upper);
    }

    public int ring(int person) {
        if (!village.hasPerson(person)) {
            return UNKNOWN;
        }
        return rings.find(village, person) ? rings.figures() : NONE;
    }

    public int close(int person) {
        if (!village.hasPerson(person)) {
            return UNKNOWN;
        }
        return rings.find(village, person) ? rings.leastDebt(village) : NONE;
    }

    public int judge(int n, long row) {
        if (n < 1 || n > MOST_THINGS || row < 0) {
            return OUTSIDE;
        }
        long left = row;
        for (int place = n - 1; place >= 0; place--) {
            things[place] = (int) (left % 1000);
            left /= 1000;
        }
        if (left != 0) {
            return OUTSIDE;
        }
        trial.copyFrom(village);
        for (int place = 0; place < n; place++) {
            if (!happens(things[place])) {
                return place;
            }
        }
        return NONE;
    }

    // ---- who drove

    public int who(int beasts) {
        if (!areBeasts(beasts)) {
            return OUTSIDE;
        }
        int people = 0;
        for (int person = 0; person < village.people(); person++) {
            if ((beasts & ~village.takableBy(person)) == 0) {
                people |= 1 << person;
            }
        }
        return people;
    }

    public int suspects(int beasts, int what) {
        if (!areBeasts(beasts) || what < 0 || what > 2) {
            return OUTSIDE;
        }
        matching.look(village);
        int everybody = (1 << village.people()) - 1;
        int sets = 0;
        int inAll = everybody;
        int inSome = 0;
        for (int people = 0; people <= everybody; people++) {
            if (matching.allTakeSome(people, beasts) && (beasts & ~matching.takableByAny(people)) == 0) {
                sets++;
                inAll &= people;
                inSome |= people;
            }
        }
        if (what == 0) {
            return sets;
        }
        if (sets == 0) {
            return NONE;
        }
        return what == 1 ? inAll : everybody & ~inSome;
    }

    // ---- rests, chances

    public int rests(int owner, int creditor, int what) {
        if (!village.hasPerson(owner) || !village.hasPerson(creditor)) {
            return UNKNOWN;
        }
        if (owner == creditor || what < 0 || what > 1) {
            return OUTSIDE;
        }
        if (village.debt(owner, creditor) == 0) {
            return NONE;
        }
        bargain.settle(village, owner, creditor);
        return what == 0 ? bargain.howMany() : bargain.first();
    }

    public int chance(int m, int x, boolean upper) {
        if (m < 0 || m > MOST_BEASTS || x < 0 || x > TENTHS) {
            return OUTSIDE;
        }
        int shut = Integer.bitCount(village.shutBeasts());
        int stay = shut - m;
        if (stay < 0) {
            return fraction(0, 1, upper);
        }
        int above = ways(shut, m) * power(x, m) * power(TENTHS - x, stay);
        return fraction(above, power(TENTHS, shut), upper);
    }

    public long seed(long v) {
        long before = seed;
        seed = v;
        return before;
    }

    public int villages(int m) {
        if (m < 1 || m > MOST_ROUNDS) {
            return OUTSIDE;
        }
        trial.copyFrom(village);
        for (int round = 0; round < m; round++) {
            seed = seed * SEED_FACTOR + SEED_STEP;
            int drawn = (int) (seed >>> 33) % 30;
            driveIfFree(drawn / 6, drawn % 6);
            trial.passDay();
            keepAllRipe();
        }
        return trial.owedByAll();
    }

    // ---- slots

    public int keep(int slot) {
        if (slot < 0 || slot >= SLOTS) {
            return UNKNOWN;
        }
        village.store(slots, slot);
        keptSlots |= 1 << slot;
        return village.dayNow();
    }

    public int again(int slot) {
        if (slot < 0 || slot >= SLOTS) {
            return UNKNOWN;
        }
        if (!has(keptSlots, slot)) {
            return STATE;
        }
        village.fetch(slots, slot);
        acts.clear();
        return village.dayNow();
    }

    public int count(int what) {
        switch (what) {
            case 0:
                return script.length();
            case 1:
                return village.people();
            case 2:
                return village.beasts();
            case 3:
                return village.dayNow();
            case 4:
                return village.shutBeasts();
            case 5:
                return village.deadBeasts();
            case 6:
                return village.owedByAll();
            case 7:
                return acts.size();
            default:
                return OUTSIDE;
        }
    }

    // ---- what the calls share

    private static boolean has(int bits, int number) {
        return (bits >> number & 1) != 0;
    }

    private boolean areBeasts(int bits) {
        return bits >= 0 && bits < 1 << village.beasts();
    }

    private int owedAfterKeeping(int person, int debtor, int beast) {
        trial.copyFrom(village);
        trial.shutIn(person, beast);
        for (int passed = 0; passed < DAYS_TILL_KEPT; passed++) {
            trial.passDay();
        }
        // A beast that has died by then can not be kept: all is still owed.
        if (trial.isRipe(beast)) {
            trial.handOver(beast);
        }
        return trial.debt(debtor, person);
    }

    private boolean happens(int thing) {
        int person = thing / 100 - 1;
        int beast = thing / 10 % 10 - 1;
        switch (thing % 10) {
            case 0:
                return driveIfFree(person, beast);
            case 1:
                return person < 0 && runHomeIfShut(beast);
            case 2:
                return person < 0 && keepIfRipe(beast);
            case 3:
                return person < 0 && beast < 0 && passTrialDay();
            default:
                return false;
        }
    }

    private boolean driveIfFree(int person, int beast) {
        if (!trial.hasPerson(person) || !trial.hasBeast(beast) || trial.clauseFor(person, beast) != FREE) {
            return false;
        }
        trial.shutIn(person, beast);
        return true;
    }

    private boolean runHomeIfShut(int beast) {
        if (!trial.hasBeast(beast) || !trial.isShut(beast)) {
            return false;
        }
        trial.runHome(beast);
        return true;
    }

    private boolean keepIfRipe(int beast) {
        if (!trial.hasBeast(beast) || !trial.isRipe(beast)) {
            return false;
        }
        trial.handOver(beast);
        return true;
    }

    private boolean passTrialDay() {
        trial.passDay();
        return true;
    }

    private void keepAllRipe() {
        for (int beast = 0; beast < trial.beasts(); beast++) {
            keepIfRipe(beast);
        }
    }

    private static int fraction(int above, int below, boolean upper) {
        int common = commonDivisor(above, below);
        if (common < 1) {
            return upper ? above : below;
        }
        return (upper ? above : below) / common;
    }

    private static int commonDivisor(int one, int other) {
        int divisor = one;
        int left = other;
        // Euclid halves the numbers every other step: 64 steps are more than 32 bits can need.
        for (int step = 0; step < 64 && left != 0; step++) {
            int next = divisor % left;
            divisor = left;
            left = next;
        }
        return divisor;
    }

    private static int power(int base, int exponent) {
        int power = 1;
        for (int factor = 0; factor < exponent; factor++) {
            power *= base;
        }
        return power;
    }

    private static int ways(int all, int chosen) {
        int ways = 1;
        for (int taken = 0; taken < chosen; taken++) {
            ways = ways * (all - taken) / (taken + 1);
        }
        return ways;
    }

    /** THE TEXT, letter by letter, and how it is read. */
    private static final class Script {
        private static final int MOST_FIGURES = 3;

        private final int[] letters = new int[MOST_LETTERS];
        private final int[] figures = new int[MOST_FIGURES];
        private int length;

        int length() {
            return length;
        }

        void clear() {
            length = 0;
        }

        boolean append(int letter) {
            if (length >= MOST_LETTERS) {
                return false;
            }
            letters[length] = letter;
            length++;
            return true;
        }

        /** Makes the village that is told, up to the fault: its place, or NONE. */
        int readInto(Village told) {
            told.clear();
            if (length == 0 || letters[0] != 'V') {
                return 0;
            }
            for (int place = 1; place < length; place += 1 + figuresOf(letters[place])) {
                int fault = readPart(told, place);
                if (fault != NONE) {
                    return fault;
                }
            }
            return NONE;
        }

        private int readPart(Village told, int start) {
            int part = letters[start];
            if (!canBegin(told, part)) {
                return start;
            }
            int wanted = figuresOf(part);
            for (int figure = 0; figure < wanted; figure++) {
                int place = start + 1 + figure;
                if (place >= length) {
                    return length;
                }
                figures[figure] = letters[place] - '0';
                if (!figureFits(told, part, figure)) {
                    return place;
                }
            }
            tell(told, part);
            return NONE;
        }

        private static int figuresOf(int part) {
            return part == 'P' ? 2 : MOST_FIGURES;
        }

        // A part is at fault from its first letter on if no figures whatever could end it.
        private static boolean canBegin(Village told, int part) {
            switch (part) {
                case 'P':
                    return told.people() < MOST_PEOPLE;
                case 'B':
                    return told.people() > 0 && told.beasts() < MOST_BEASTS;
                case 'D':
                    return somePairIsLeft(told);
                default:
                    return false;
            }
        }

        private boolean figureFits(Village told, int part, int place) {
            int figure = figures[place];
            if (figure < 0 || figure > 9) {
                return false;
            }
            switch (part) {
                case 'B':
                    return beastFigureFits(told, place, figure);
                case 'D':
                    return debtFigureFits(told, place, figure);
                default:
                    return true;
            }
        }

        private static boolean beastFigureFits(Village told, int place, int figure) {
            switch (place) {
                case 0:
                    return told.hasPerson(figure);
                case 1:
                    return figure >= 1;
                default:
                    return figure >= COW && figure <= GUEST;
            }
        }

        private boolean debtFigureFits(Village told, int place, int figure) {
            switch (place) {
                case 0:
                    return told.hasPerson(figure) && somePairIsLeftOf(told, figure);
                case 1:
                    return told.hasPerson(figure) && told.isPairLeft(figures[0], figure);
                default:
                    return figure >= 1;
            }
        }

        private static boolean somePairIsLeft(Village told) {
            for (int person = 0; person < told.people(); person++) {
                if (somePairIsLeftOf(told, person)) {
                    return true;
                }
            }
            return false;
        }

        private static boolean somePairIsLeftOf(Village told, int person) {
            for (int other = 0; other < told.people(); other++) {
                if (told.isPairLeft(person, other)) {
                    return true;
                }
            }
            return false;
        }

        private void tell(Village told, int part) {
            switch (part) {
                case 'P':
                    told.addPerson(figures[0], figures[1]);
                    break;
                case 'B':
                    told.addBeast(figures[0], figures[1], figures[2]);
                    break;
                default:
                    told.addDebt(figures[0], figures[1], figures[2]);
                    break;
            }
        }
    }

    /** HAY, MONEY, BEASTS, what is owed, THE DAY: one row of numbers, so that it is copied at once. */
    private static final class Village {
        static final int SIZE = 52;
        private static final int PEOPLE = 0, BEASTS = 1, DAY = 2, HAY = 3, MONEY = 7, OWED = 11;
        private static final int OWNER = 27, WORTH = 32, KIND = 37, HOLDER = 42, DAYS = 47;
        private static final int MONTHS = 12, MARCH_DAYS = 3;

        private final int[] cells = new int[SIZE];

        void clear() {
            Arrays.fill(cells, 0);
        }

        void copyFrom(Village other) {
            System.arraycopy(other.cells, 0, cells, 0, SIZE);
        }

        void store(int[] row, int place) {
            System.arraycopy(cells, 0, row, place * SIZE, SIZE);
        }

        void fetch(int[] row, int place) {
            System.arraycopy(row, place * SIZE, cells, 0, SIZE);
        }

        int people() {
            return cells[PEOPLE];
        }

        int beasts() {
            return cells[BEASTS];
        }

        int dayNow() {
            return cells[DAY];
        }

        boolean hasPerson(int person) {
            return person >= 0 && person < people();
        }

        boolean hasBeast(int beast) {
            return beast >= 0 && beast < beasts();
        }

        int hayOf(int person) {
            return cells[HAY + person];
        }

        int moneyOf(int person) {
            return cells[MONEY + person];
        }

        int debt(int person, int other) {
            return cells[OWED + person * MOST_PEOPLE + other];
        }

        // A debt that has been told is 1 at least, so 0 says that it has not.
        boolean isPairLeft(int person, int other) {
            return person != other && cells[OWED + person * MOST_PEOPLE + other] == 0;
        }

        int ownerOf(int beast) {
            return cells[OWNER + beast];
        }

        int worthOf(int beast) {
            return cells[WORTH + beast];
        }

        int kindOf(int beast) {
            return cells[KIND + beast];
        }

        int holderOf(int beast) {
            return cells[HOLDER + beast];
        }

        int daysOf(int beast) {
            return cells[DAYS + beast];
        }

        boolean isDead(int beast) {
            return worthOf(beast) == 0;
        }

        boolean isShut(int beast) {
            return holderOf(beast) != NONE;
        }

        boolean isRipe(int beast) {
            return isShut(beast) && daysOf(beast) >= DAYS_TILL_KEPT;
        }

        int beastsOf(int person) {
            int bits = 0;
            for (int beast = 0; beast < beasts(); beast++) {
                bits |= ownerOf(beast) == person ? 1 << beast : 0;
            }
            return bits;
        }

        int shutBeasts() {
            int bits = 0;
            for (int beast = 0; beast < beasts(); beast++) {
                bits |= isShut(beast) ? 1 << beast : 0;
            }
            return bits;
        }

        int deadBeasts() {
            int bits = 0;
            for (int beast = 0; beast < beasts(); beast++) {
                bits |= isDead(beast) ? 1 << beast : 0;
            }
            return bits;
        }

        int takableBy(int person) {
            int bits = 0;
            for (int beast = 0; beast < beasts(); beast++) {
                bits |= clauseFor(person, beast) == FREE ? 1 << beast : 0;
            }
            return bits;
        }

        int owedBy(int person) {
            int sum = 0;
            for (int other = 0; other < people(); other++) {
                sum += debt(person, other);
            }
            return sum;
        }

        int owedTo(int person) {
            int sum = 0;
            for (int other = 0; other < people(); other++) {
                sum += debt(other, person);
            }
            return sum;
        }

        int owedByAll() {
            int sum = 0;
            for (int person = 0; person < people(); person++) {
                sum += owedBy(person);
            }
            return sum;
        }

        int clauseFor(int person, int beast) {
            int owner = ownerOf(beast);
            if (owner == person) {
                return OWN;
            }
            if (isDead(beast)) {
                return DEAD;
            }
            if (isShut(beast)) {
                return SHUT_IN;
            }
            if (debt(owner, person) == 0) {
                return NOT_OWED;
            }
            if (kindOf(beast) == OX && isMarch()) {
                return PLOUGHING;
            }
            return kindOf(beast) == GUEST ? GUESTS : FREE;
        }

        private boolean isMarch() {
            return Math.floorMod(dayNow(), MONTHS) < MARCH_DAYS;
        }

        void addPerson(int hay, int money) {
            int person = people();
            if (person >= MOST_PEOPLE) {
                return;
            }
            cells[HAY + person] = hay;
            cells[MONEY + person] = money;
            cells[PEOPLE] = person + 1;
        }

        void addBeast(int owner, int worth, int kind) {
            int beast = beasts();
            if (beast >= MOST_BEASTS) {
                return;
            }
            cells[OWNER + beast] = owner;
            cells[WORTH + beast] = worth;
            cells[KIND + beast] = kind;
            cells[HOLDER + beast] = NONE;
            cells[BEASTS] = beast + 1;
        }

        void addDebt(int person, int other, int more) {
            oweNow(person, other, Math.min(MOST_OWED, debt(person, other) + more));
        }

        private void lessenDebt(int person, int other, int less) {
            oweNow(person, other, Math.max(0, debt(person, other) - less));
        }

        private void oweNow(int person, int other, int owed) {
            cells[OWED + person * MOST_PEOPLE + other] = owed;
        }

        void shutIn(int person, int beast) {
            cells[HOLDER + beast] = person;
            cells[DAYS + beast] = 0;
        }

        private void goHome(int beast) {
            cells[HOLDER + beast] = NONE;
            cells[DAYS + beast] = 0;
        }

        void passDay() {
            for (int beast = 0; beast < beasts(); beast++) {
                if (isShut(beast)) {
                    feed(beast);
                }
            }
            cells[DAY]++;
        }

        private void feed(int beast) {
            int owner = ownerOf(beast);
            cells[DAYS + beast]++;
            if (hayOf(owner) > 0) {
                cells[HAY + owner]--;
                return;
            }
            int loss = kindOf(beast) == SHEEP ? 2 : 1;
            cells[WORTH + beast] = Math.max(0, worthOf(beast) - loss);
            if (isDead(beast)) {
                goHome(beast);
            }
        }

        void payDebt(int person, int other, int n) {
            cells[MONEY + person] -= n;
            cells[MONEY + other] += n;
            lessenDebt(person, other, n);
            if (debt(person, other) == 0) {
                sendHome(person, other);
            }
        }

        private void sendHome(int owner, int holder) {
            for (int beast = 0; beast < beasts(); beast++) {
                if (ownerOf(beast) == owner && holderOf(beast) == holder) {
                    goHome(beast);
                }
            }
        }

        void runHome(int beast) {
            addDebt(ownerOf(beast), holderOf(beast), OWED_FOR_BREAKING_OUT);
            goHome(beast);
        }

        void handOver(int beast) {
            int holder = holderOf(beast);
            lessenDebt(ownerOf(beast), holder, worthOf(beast));
            cells[OWNER + beast] = holder;
            goHome(beast);
        }
    }

    /** THE ROW of ACTS: how the village was ahead of each. */
    private static final class Acts {
        private final int[] before = new int[MOST_ACTS * Village.SIZE];
        private int size;
        private int next;

        int size() {
            return size;
        }

        void clear() {
            size = 0;
            next = 0;
        }

        // The places go round, so that the first act is the one that is written over.
        void remember(Village village) {
            village.store(before, next);
            next = (next + 1) % MOST_ACTS;
            size = Math.min(MOST_ACTS, size + 1);
        }

        boolean takeBack(Village village) {
            if (size == 0) {
                return false;
            }
            next = (next + MOST_ACTS - 1) % MOST_ACTS;
            size--;
            village.fetch(before, next);
            return true;
        }
    }

    /** Who MAY take what now, and how many can get a beast each. */
    private static final class Matching {
        private static final int ALL_BEASTS = (1 << MOST_BEASTS) - 1;
        private static final int[] FACTORIALS = {1, 1, 2, 6, 24};

        private final int[] takable = new int[MOST_PEOPLE];
        private int people;

        void look(Village village) {
            people = Math.min(MOST_PEOPLE, village.people());
            for (int person = 0; person < people; person++) {
                takable[person] = village.takableBy(person);
            }
        }

        private int everybody() {
            return (1 << people) - 1;
        }

        int takableByAny(int group) {
            int bits = 0;
            for (int person = 0; person < people; person++) {
                bits |= has(group, person) ? takable[person] : 0;
            }
            return bits;
        }

        boolean allTakeSome(int group, int beasts) {
            for (int person = 0; person < people; person++) {
                if (has(group, person) && (takable[person] & beasts) == 0) {
                    return false;
                }
            }
            return true;
        }

        int most() {
            return mostOf(everybody(), ALL_BEASTS);
        }

        // By Hall's theorem as many go without as the group that lacks most beasts lacks.
        private int mostOf(int group, int free) {
            int lacking = 0;
            for (int part = 0; part <= group; part++) {
                if ((part & ~group) == 0) {
                    int found = Integer.bitCount(takableByAny(part) & free);
                    lacking = Math.max(lacking, Integer.bitCount(part) - found);
                }
            }
            return Integer.bitCount(group) - lacking;
        }

        int firstWay() {
            int way = 0;
            int free = ALL_BEASTS;
            int wanted = most();
            for (int person = 0; person < people; person++) {
                int choice = firstChoice(person, free, wanted);
                if (choice > 0) {
                    free &= ~(1 << choice - 1);
                    wanted--;
                }
                way = way * 10 + choice;
            }
            return way;
        }

        // The least choice by which those behind this person can still bring it to all that are wanted.
        private int firstChoice(int person, int free, int wanted) {
            int behind = everybody() & ~((2 << person) - 1);
            if (mostOf(behind, free) == wanted) {
                return 0;
            }
            for (int beast = 0; beast < MOST_BEASTS; beast++) {
                boolean gets = has(takable[person] & free, beast);
                if (gets && 1 + mostOf(behind, free & ~(1 << beast)) == wanted) {
                    return beast + 1;
                }
            }
            return 0;
        }

        int orders() {
            return FACTORIALS[people];
        }

        /** In how many orders of all people MOST is one more when this person has come. */
        int ordersWithGain(int person) {
            int orders = 0;
            for (int ahead = 0; ahead <= everybody(); ahead++) {
                if (!has(ahead, person) && mostOf(ahead | 1 << person, ALL_BEASTS) > mostOf(ahead, ALL_BEASTS)) {
                    int came = Integer.bitCount(ahead);
                    orders += FACTORIALS[came] * FACTORIALS[people - 1 - came];
                }
            }
            return orders;
        }
    }

    /** The shortest RING of debts of a person. */
    private static final class Rings {
        // At n: the people from whom n debts, one behind the other, lead to the person.
        private final int[] leading = new int[MOST_PEOPLE + 1];
        private final int[] members = new int[MOST_PEOPLE];
        private int size;

        boolean find(Village village, int person) {
            size = 0;
            leading[0] = 1 << person;
            for (int steps = 1; steps <= village.people(); steps++) {
                leading[steps] = debtorsOf(village, leading[steps - 1]);
                if (has(leading[steps], person)) {
                    follow(village, person, steps);
                    return true;
                }
            }
            return false;
        }

        private static int debtorsOf(Village village, int creditors) {
            int bits = 0;
            for (int person = 0; person < village.people(); person++) {
                bits |= owesOneOf(village, person, creditors) ? 1 << person : 0;
            }
            return bits;
        }

        private static boolean owesOneOf(Village village, int person, int creditors) {
            for (int other = 0; other < village.people(); other++) {
                if (has(creditors, other) && village.debt(person, other) > 0) {
                    return true;
                }
            }
            return false;
        }

        // The fewest steps back to the person never meet anybody twice, so each is told once.
        private void follow(Village village, int person, int steps) {
            int at = person;
            for (int left = steps; left >= 1; left--) {
                members[size] = at;
                size++;
                at = firstCreditor(village, at, leading[left - 1]);
            }
        }

        private static int firstCreditor(Village village, int person, int among) {
            for (int other = 0; other < village.people(); other++) {
                if (has(among, other) && village.debt(person, other) > 0) {
                    return other;
                }
            }
            return person;
        }

        int figures() {
            int figures = 0;
            for (int place = 0; place < size; place++) {
                figures = figures * 10 + members[place] + 1;
            }
            return figures;
        }

        int leastDebt(Village village) {
            int least = MOST_OWED;
            for (int place = 0; place < size; place++) {
                int next = place + 1 < size ? members[place + 1] : members[0];
                least = Math.min(least, village.debt(members[place], next));
            }
            return least;
        }
    }

    /** What an owner pays and what a creditor drives, where neither is better off by another choice. */
    private static final class Bargain {
        private final int[] worths = new int[MOST_BEASTS];
        private int debt;
        private int mostPaid;
        private int takable;
        private int rests;
        private int first;

        void settle(Village village, int owner, int creditor) {
            debt = village.debt(owner, creditor);
            mostPaid = Math.min(MOST_PAID_AT_REST, debt);
            takable = village.takableBy(creditor) & village.beastsOf(owner);
            for (int beast = 0; beast < village.beasts(); beast++) {
                worths[beast] = village.worthOf(beast);
            }
            rests = 0;
            first = NONE;
            for (int paid = 0; paid <= mostPaid; paid++) {
                for (int choice = 0; choice <= MOST_BEASTS; choice++) {
                    if (isOpen(choice) && ownerRests(paid, choice) && creditorRests(paid, choice)) {
                        first = rests == 0 ? 10 * paid + choice : first;
                        rests++;
                    }
                }
            }
        }

        int howMany() {
            return rests;
        }

        int first() {
            return first;
        }

        private boolean isOpen(int choice) {
            return choice == 0 || has(takable, choice - 1);
        }

        private boolean ownerRests(int paid, int choice) {
            for (int other = 0; other <= mostPaid; other++) {
                if (cost(other, choice) < cost(paid, choice)) {
                    return false;
                }
            }
            return true;
        }

        private boolean creditorRests(int paid, int choice) {
            for (int other = 0; other <= MOST_BEASTS; other++) {
                if (isOpen(other) && gain(paid, other) > gain(paid, choice)) {
                    return false;
                }
            }
            return true;
        }

        private int cost(int paid, int choice) {
            boolean loses = choice > 0 && debt > paid;
            return paid + (loses ? worths[choice - 1] : 0);
        }

        // If nothing is still owed the beast brings nothing, and driving it still costs 1.
        private int gain(int paid, int choice) {
            if (choice == 0) {
                return paid;
            }
            return paid + Math.min(worths[choice - 1], debt - paid) - 1;
        }
    }
}
