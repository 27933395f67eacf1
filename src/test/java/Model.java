import java.math.BigInteger;
import java.util.ArrayDeque;
import java.util.ArrayList;
import java.util.Deque;
import java.util.HashMap;
import java.util.List;
import java.util.Map;
import java.util.TreeSet;
import java.util.regex.Matcher;
import java.util.regex.Pattern;

/** The document once more, in the slowest and plainest way: what can be tried out is tried out. */
final class Model {
    private static final int UNKNOWN = -1, OUTSIDE = -2, STATE = -3, FULL = -4, NONE = -9;
    private static final Pattern PART = Pattern.compile("P([0-9])([0-9])|B([0-9])([1-9])([0-3])|D([0-9])([0-9])([1-9])");

    private static final class Beast {
        int owner, worth, kind, days, holder = NONE;
        boolean dead;
    }

    private static final class State {
        final List<int[]> people = new ArrayList<>();
        final List<Beast> beasts = new ArrayList<>();
        final Map<String, Integer> debts = new HashMap<>();
        int day;

        State copy() {
            State c = new State();
            people.forEach(p -> c.people.add(p.clone()));
            for (Beast b : beasts) {
                Beast d = new Beast();
                d.owner = b.owner;
                d.worth = b.worth;
                d.kind = b.kind;
                d.days = b.days;
                d.holder = b.holder;
                d.dead = b.dead;
                c.beasts.add(d);
            }
            c.debts.putAll(debts);
            c.day = day;
            return c;
        }

        int owes(int i, int j) {
            return debts.getOrDefault(i + ">" + j, 0);
        }

        void owe(int i, int j, int v) {
            debts.put(i + ">" + j, v < 0 ? 0 : v > 99 ? 99 : v);
        }

        int owedByAll() {
            return debts.values().stream().mapToInt(v -> v).sum();
        }

        boolean noPerson(int p) {
            return p < 0 || p >= people.size();
        }

        boolean noBeast(int b) {
            return b < 0 || b >= beasts.size();
        }

        int clause(int p, int b) {
            Beast x = beasts.get(b);
            boolean[] holds = {
                false, x.owner == p, x.dead, x.holder != NONE, owes(x.owner, p) == 0,
                x.kind == 1 && day % 12 <= 2, x.kind == 3};
            for (int c = 1; c <= 6; c++) {
                if (holds[c]) {
                    return c;
                }
            }
            return 0;
        }

        boolean may(int p, int b) {
            return clause(p, b) == 0;
        }

        void drive(int p, int b) {
            Beast x = beasts.get(b);
            if (clause(p, b) == 6) {
                owe(p, x.owner, owes(p, x.owner) + x.worth);
            } else {
                x.holder = p;
                x.days = 0;
            }
        }

        int shut() {
            int n = 0;
            for (Beast b : beasts) {
                n += b.holder != NONE ? 1 : 0;
            }
            return n;
        }

        void day() {
            for (Beast b : beasts) {
                if (b.holder == NONE) {
                    continue;
                }
                int[] owner = people.get(b.owner);
                if (owner[0] >= 1) {
                    owner[0] -= 1;
                } else {
                    b.worth -= b.kind == 2 ? 2 : 1;
                }
                b.days += 1;
                if (b.worth <= 0) {
                    b.worth = 0;
                    b.dead = true;
                    home(b);
                }
            }
            day += 1;
        }

        void home(Beast b) {
            b.holder = NONE;
            b.days = 0;
        }

        void breakOut(int n) {
            Beast b = beasts.get(n);
            owe(b.owner, b.holder, owes(b.owner, b.holder) + 3);
            home(b);
        }

        boolean canBeKept(int n) {
            return beasts.get(n).holder != NONE && beasts.get(n).days >= 3;
        }

        void keep(int n) {
            Beast b = beasts.get(n);
            int creditor = b.holder;
            owe(b.owner, creditor, owes(b.owner, creditor) - b.worth);
            b.owner = creditor;
            home(b);
        }
    }

    private final StringBuilder text = new StringBuilder();
    private State now = new State();
    private final Deque<State> acts = new ArrayDeque<>();
    private final State[] slots = new State[2];
    private long seed;

    private void act() {
        acts.addLast(now.copy());
        if (acts.size() > 14) {
            acts.removeFirst();
        }
    }

    int write(int letter) {
        if (letter < 0 || letter > 255) {
            return OUTSIDE;
        }
        if (text.length() == 56) {
            return FULL;
        }
        text.append((char) letter);
        return text.length();
    }

    int wipe() {
        int n = text.length();
        text.setLength(0);
        return n;
    }

    /** The village that a whole text tells, or null. */
    private static State read(String text) {
        if (!text.startsWith("V")) {
            return null;
        }
        State s = new State();
        Matcher m = PART.matcher(text);
        int at = 1;
        while (at < text.length()) {
            m.region(at, text.length());
            if (!m.lookingAt() || !add(s, m.group())) {
                return null;
            }
            at = m.end();
        }
        return s;
    }

    private static boolean add(State s, String part) {
        int a = part.charAt(1) - '0';
        int b = part.charAt(2) - '0';
        if (part.charAt(0) == 'P') {
            s.people.add(new int[] {a, b});
            return s.people.size() <= 4;
        }
        int c = part.charAt(3) - '0';
        if (part.charAt(0) == 'B') {
            Beast x = new Beast();
            x.owner = a;
            x.worth = b;
            x.kind = c;
            s.beasts.add(x);
            return !s.noPerson(a) && s.beasts.size() <= 5;
        }
        boolean good = a != b && !s.noPerson(a) && !s.noPerson(b) && s.owes(a, b) == 0;
        s.owe(a, b, c);
        return good;
    }

    /** Whether something that comes behind makes it a village: three figures end any part. */
    private static boolean canGoOn(String start) {
        if (start.isEmpty()) {
            return true;
        }
        for (int figures = 0; figures <= 3; figures++) {
            int most = (int) Math.pow(10, figures);
            for (int n = 0; n < most; n++) {
                String end = String.valueOf(most + n).substring(1);
                if (read(start + end) != null) {
                    return true;
                }
            }
        }
        return false;
    }

    int fault() {
        for (int n = 0; n < text.length(); n++) {
            if (!canGoOn(text.substring(0, n + 1))) {
                return n;
            }
        }
        return read(text.toString()) == null ? text.length() : NONE;
    }

    int village() {
        State told = read(text.toString());
        if (told == null) {
            return STATE;
        }
        now = told;
        acts.clear();
        slots[0] = null;
        slots[1] = null;
        return told.people.size() * 10 + told.beasts.size();
    }

    int person(int p, int what) {
        if (now.noPerson(p)) {
            return UNKNOWN;
        }
        if (what < 0 || what > 4) {
            return OUTSIDE;
        }
        if (what < 2) {
            return now.people.get(p)[what];
        }
        int sum = 0;
        if (what == 2) {
            for (int b = 0; b < now.beasts.size(); b++) {
                sum += now.beasts.get(b).owner == p ? Math.pow(2, b) : 0;
            }
            return sum;
        }
        for (int o = 0; o < 4; o++) {
            sum += what == 3 ? now.owes(p, o) : now.owes(o, p);
        }
        return sum;
    }

    int beast(int n, int what) {
        if (now.noBeast(n)) {
            return UNKNOWN;
        }
        Beast b = now.beasts.get(n);
        int[] all = {b.owner, b.worth, b.kind, b.holder, b.days, b.dead ? 1 : 0};
        return what < 0 || what > 5 ? OUTSIDE : all[what];
    }

    int owes(int p, int o) {
        return now.noPerson(p) || now.noPerson(o) ? UNKNOWN : now.owes(p, o);
    }

    int drive(int p, int b) {
        int clause = clause(p, b);
        if (clause == UNKNOWN) {
            return UNKNOWN;
        }
        if (clause % 6 != 0) {
            return STATE;
        }
        act();
        now.drive(p, b);
        return clause;
    }

    int day() {
        act();
        now.day();
        return now.shut();
    }

    int pay(int p, int o, int n) {
        if (now.noPerson(p) || now.noPerson(o)) {
            return UNKNOWN;
        }
        if (p == o || n < 1 || n > 9) {
            return OUTSIDE;
        }
        if (now.owes(p, o) < n || now.people.get(p)[1] < n) {
            return STATE;
        }
        act();
        now.people.get(p)[1] -= n;
        now.people.get(o)[1] += n;
        now.owe(p, o, now.owes(p, o) - n);
        for (Beast b : now.beasts) {
            if (now.owes(p, o) == 0 && b.owner == p && b.holder == o) {
                now.home(b);
            }
        }
        return now.owes(p, o);
    }

    int breakOut(int b) {
        if (now.noBeast(b)) {
            return UNKNOWN;
        }
        int holder = now.beasts.get(b).holder;
        if (holder == NONE) {
            return STATE;
        }
        act();
        now.breakOut(b);
        return holder;
    }

    int forfeit(int b) {
        if (now.noBeast(b)) {
            return UNKNOWN;
        }
        if (!now.canBeKept(b)) {
            return STATE;
        }
        act();
        int owner = now.beasts.get(b).owner;
        now.keep(b);
        return owner;
    }

    int undo() {
        if (acts.isEmpty()) {
            return STATE;
        }
        now = acts.removeLast();
        return acts.size();
    }

    int clause(int p, int b) {
        return now.noPerson(p) || now.noBeast(b) ? UNKNOWN : now.clause(p, b);
    }

    int worth(int b, int n) {
        if (now.noBeast(b)) {
            return UNKNOWN;
        }
        if (n < 0 || n > 9) {
            return OUTSIDE;
        }
        State s = now.copy();
        for (int i = 0; i < n; i++) {
            s.day();
        }
        return s.beasts.get(b).worth;
    }

    int take(int p, int debtor, boolean owed) {
        if (now.noPerson(p) || now.noPerson(debtor)) {
            return UNKNOWN;
        }
        if (p == debtor) {
            return OUTSIDE;
        }
        TreeSet<Integer> ways = new TreeSet<>();
        for (int b = 0; b < now.beasts.size(); b++) {
            if (now.beasts.get(b).owner == debtor && now.may(p, b)) {
                State s = now.copy();
                s.drive(p, b);
                s.day();
                s.day();
                s.day();
                if (!s.beasts.get(b).dead) {
                    s.keep(b);
                }
                ways.add(s.owes(debtor, p) * 10000 + now.beasts.get(b).worth * 100 + b);
            }
        }
        if (ways.isEmpty()) {
            return NONE;
        }
        return owed ? ways.first() / 10000 : ways.first() % 100;
    }

    /** Every way in which some of these people get a beast each, as numbers. */
    private TreeSet<Integer> ways(int people) {
        TreeSet<Integer> ways = new TreeSet<>();
        int all = (int) Math.pow(10, now.people.size());
        for (int way = 0; way < all; way++) {
            if (isWay(way, people)) {
                ways.add(way);
            }
        }
        return ways;
    }

    private boolean isWay(int way, int people) {
        int rest = way;
        int used = 0;
        for (int p = now.people.size() - 1; p >= 0; p--) {
            int b = rest % 10 - 1;
            rest /= 10;
            if (b < 0) {
                continue;
            }
            if (now.noBeast(b) || (used & 1 << b) != 0 || (people & 1 << p) == 0 || !now.may(p, b)) {
                return false;
            }
            used |= 1 << b;
        }
        return true;
    }

    private static int size(int way) {
        return String.valueOf(way).replace("0", "").length();
    }

    private int most(int people) {
        return ways(people).stream().mapToInt(Model::size).max().getAsInt();
    }

    int each(boolean way) {
        int most = most(15);
        return way ? ways(15).stream().filter(w -> size(w) == most).findFirst().get() : most;
    }

    int share(int p, boolean upper) {
        if (now.noPerson(p)) {
            return UNKNOWN;
        }
        int[] most = new int[1 << now.people.size()];
        for (int s = 0; s < most.length; s++) {
            most[s] = most(s);
        }
        int gain = 0;
        int orders = 0;
        for (List<Integer> order : orders(now.people.size())) {
            int come = 0;
            for (int q : order) {
                gain += q == p ? most[come | 1 << q] - most[come] : 0;
                come |= 1 << q;
            }
            orders++;
        }
        return fraction(gain, orders, upper);
    }

    private static int fraction(long above, long below, boolean upper) {
        BigInteger gcd = BigInteger.valueOf(above).gcd(BigInteger.valueOf(below));
        return BigInteger.valueOf(upper ? above : below).divide(gcd).intValue();
    }

    private static List<List<Integer>> orders(int n) {
        List<List<Integer>> all = new ArrayList<>();
        if (n == 0) {
            all.add(new ArrayList<>());
            return all;
        }
        for (List<Integer> order : orders(n - 1)) {
            for (int at = 0; at < n; at++) {
                List<Integer> longer = new ArrayList<>(order);
                longer.add(at, n - 1);
                all.add(longer);
            }
        }
        return all;
    }

    int ring(int p) {
        if (now.noPerson(p)) {
            return UNKNOWN;
        }
        for (int ring = 10; ring <= 9999; ring++) {
            if (isRing(String.valueOf(ring), p)) {
                return ring;
            }
        }
        return NONE;
    }

    private boolean isRing(String ring, int p) {
        if (ring.charAt(0) - '1' != p || ring.chars().distinct().count() != ring.length()) {
            return false;
        }
        for (int i = 0; i < ring.length(); i++) {
            int one = ring.charAt(i) - '1';
            int next = ring.charAt((i + 1) % ring.length()) - '1';
            if (now.noPerson(one) || now.owes(one, next) == 0) {
                return false;
            }
        }
        return true;
    }

    int close(int p) {
        int ring = ring(p);
        if (ring < 0) {
            return ring;
        }
        String figures = String.valueOf(ring);
        int least = 1000;
        for (int i = 0; i < figures.length(); i++) {
            int next = figures.charAt((i + 1) % figures.length()) - '1';
            least = Math.min(least, now.owes(figures.charAt(i) - '1', next));
        }
        return least;
    }

    int judge(int n, long row) {
        if (n < 1 || n > 4 || row < 0 || String.valueOf(row).length() > 3 * n) {
            return OUTSIDE;
        }
        String figures = String.format("%0" + 3 * n + "d", row);
        State s = now.copy();
        for (int i = 0; i < n; i++) {
            if (!judged(s, figures.substring(3 * i, 3 * i + 3))) {
                return i;
            }
        }
        return NONE;
    }

    private static boolean judged(State s, String thing) {
        int b = thing.charAt(1) - '1';
        if (thing.equals("003")) {
            s.day();
            return true;
        }
        if (s.noBeast(b)) {
            return false;
        }
        if (thing.endsWith("0")) {
            int p = thing.charAt(0) - '1';
            if (s.noPerson(p) || !s.may(p, b)) {
                return false;
            }
            s.drive(p, b);
            return true;
        }
        if (thing.startsWith("0") && thing.endsWith("1") && s.beasts.get(b).holder != NONE) {
            s.breakOut(b);
            return true;
        }
        if (thing.startsWith("0") && thing.endsWith("2") && s.canBeKept(b)) {
            s.keep(b);
            return true;
        }
        return false;
    }

    private boolean noBeasts(int bits) {
        return bits < 0 || bits >= Math.pow(2, now.beasts.size());
    }

    int who(int bits) {
        if (noBeasts(bits)) {
            return OUTSIDE;
        }
        int people = 0;
        for (int p = 0; p < now.people.size(); p++) {
            State s = now.copy();
            boolean all = true;
            for (int b = 0; b < s.beasts.size(); b++) {
                if ((bits & 1 << b) != 0) {
                    all = all && s.may(p, b);
                    if (all) {
                        s.drive(p, b);
                    }
                }
            }
            people += all ? 1 << p : 0;
        }
        return people;
    }

    int suspects(int bits, int what) {
        if (noBeasts(bits) || what < 0 || what > 2) {
            return OUTSIDE;
        }
        List<Integer> sets = new ArrayList<>();
        for (int set = 0; set < 1 << now.people.size(); set++) {
            if (suspected(set, bits)) {
                sets.add(set);
            }
        }
        if (what == 0) {
            return sets.size();
        }
        if (sets.isEmpty()) {
            return NONE;
        }
        int found = 0;
        for (int p = 0; p < now.people.size(); p++) {
            int bit = 1 << p;
            boolean inAll = sets.stream().allMatch(s -> (s & bit) != 0);
            boolean inNone = sets.stream().noneMatch(s -> (s & bit) != 0);
            found += (what == 1 ? inAll : inNone) ? bit : 0;
        }
        return found;
    }

    private boolean suspected(int set, int bits) {
        int free = bits;
        for (int p = 0; p < now.people.size(); p++) {
            if ((set & 1 << p) == 0) {
                continue;
            }
            int his = 0;
            for (int b = 0; b < now.beasts.size(); b++) {
                his |= now.may(p, b) ? 1 << b : 0;
            }
            if ((his & bits) == 0) {
                return false;
            }
            free &= ~his;
        }
        return free == 0;
    }

    /** What a pair costs the owner and brings the creditor. */
    private int[] outcome(int debt, int paid, int choice) {
        int still = debt - paid;
        int cost = paid;
        int gain = paid;
        if (choice > 0) {
            int worth = now.beasts.get(choice - 1).worth;
            if (still > 0) {
                cost += worth;
                gain += (worth > still ? still : worth) - 1;
            } else {
                gain -= 1;
            }
        }
        return new int[] {cost, gain};
    }

    int rests(int owner, int creditor, int what) {
        if (now.noPerson(owner) || now.noPerson(creditor)) {
            return UNKNOWN;
        }
        if (owner == creditor || what < 0 || what > 1) {
            return OUTSIDE;
        }
        int debt = now.owes(owner, creditor);
        if (debt == 0) {
            return NONE;
        }
        List<Integer> choices = new ArrayList<>(List.of(0));
        for (int b = 0; b < now.beasts.size(); b++) {
            if (now.beasts.get(b).owner == owner && now.may(creditor, b)) {
                choices.add(b + 1);
            }
        }
        TreeSet<Integer> pairs = new TreeSet<>();
        for (int paid = 0; paid <= 3 && paid <= debt; paid++) {
            for (int choice : choices) {
                int[] here = outcome(debt, paid, choice);
                boolean rest = true;
                for (int other = 0; other <= 3 && other <= debt; other++) {
                    rest &= outcome(debt, other, choice)[0] >= here[0];
                }
                for (int other : choices) {
                    rest &= outcome(debt, paid, other)[1] <= here[1];
                }
                if (rest) {
                    pairs.add(10 * paid + choice);
                }
            }
        }
        if (what == 0) {
            return pairs.size();
        }
        return pairs.isEmpty() ? NONE : pairs.first();
    }

    int chance(int m, int x, boolean upper) {
        if (m < 0 || m > 5 || x < 0 || x > 10) {
            return OUTSIDE;
        }
        long above = 0;
        long below = 1;
        int shut = now.shut();
        for (int i = 0; i < shut; i++) {
            below *= 10;
        }
        for (int out = 0; out < 1 << shut; out++) {
            long product = Integer.bitCount(out) == m ? 1 : 0;
            for (int i = 0; i < shut; i++) {
                product *= (out & 1 << i) != 0 ? x : 10 - x;
            }
            above += product;
        }
        return fraction(above, below, upper);
    }

    long seed(long v) {
        long before = seed;
        seed = v;
        return before;
    }

    int villages(int m) {
        if (m < 1 || m > 30) {
            return OUTSIDE;
        }
        State s = now.copy();
        for (int i = 0; i < m; i++) {
            seed = BigInteger.valueOf(seed).multiply(new BigInteger("6364136223846793005"))
                    .add(new BigInteger("1442695040888963407")).longValue();
            int left = (int) (Long.divideUnsigned(seed, 1L << 33) % 30);
            int p = left / 6;
            int b = left - 6 * p;
            if (!s.noPerson(p) && !s.noBeast(b) && s.may(p, b)) {
                s.drive(p, b);
            }
            s.day();
            for (int k = 0; k < s.beasts.size(); k++) {
                if (s.canBeKept(k)) {
                    s.keep(k);
                }
            }
        }
        return s.owedByAll();
    }

    int keep(int slot) {
        if (slot < 0 || slot > 1) {
            return UNKNOWN;
        }
        slots[slot] = now.copy();
        return now.day;
    }

    int again(int slot) {
        if (slot < 0 || slot > 1) {
            return UNKNOWN;
        }
        if (slots[slot] == null) {
            return STATE;
        }
        now = slots[slot].copy();
        acts.clear();
        return now.day;
    }

    int count(int what) {
        int shut = 0;
        int dead = 0;
        for (int b = 0; b < now.beasts.size(); b++) {
            shut += now.beasts.get(b).holder != NONE ? 1 << b : 0;
            dead += now.beasts.get(b).dead ? 1 << b : 0;
        }
        int[] all = {text.length(), now.people.size(), now.beasts.size(), now.day, shut, dead,
            now.owedByAll(), acts.size()};
        return what < 0 || what > 7 ? OUTSIDE : all[what];
    }
}
