import java.math.BigInteger;
import java.util.ArrayList;
import java.util.List;
import java.util.Random;
import java.util.regex.Matcher;
import java.util.regex.Pattern;

/**
 * Random runs of calls, held against a second, slow reading of the document that tries
 * everything out. The runs follow from fixed seeds; arguments are wrong now and then.
 */
public final class ModelTest {
    private static final int NONE = -1, UNKNOWN = -101, OUTSIDE = -102, STATE = -103, FULL = -104;
    private static final int RUNS = 800;
    private static final int CALLS = 512;

    public static void main(String[] args) {
        int wrong = 0;
        for (int run = 0; run < RUNS && wrong < 5; run++) {
            wrong += runOne(run) ? 0 : 1;
        }
        System.out.println(RUNS + " runs of two objects with " + CALLS + " calls each, " + wrong + " wrong");
        if (wrong != 0) {
            System.exit(1);
        }
    }

    /** Two objects by turns: what is done to one is nothing to the other. */
    private static boolean runOne(int run) {
        Random random = new Random(run);
        Side one = new Side(run + " (one)");
        Side other = new Side(run + " (other)");
        for (int at = 0; at < 2 * CALLS; at++) {
            Side side = one.made == CALLS || other.made < CALLS && random.nextBoolean() ? other : one;
            if (!side.callOnce(random)) {
                return false;
            }
        }
        return true;
    }

    /** An object, what the document says of it, and the calls that it had. */
    private static final class Side {
        private final String name;
        private final DebtRooms x = new DebtRooms();
        private final Model model = new Model();
        private final List<String> calls = new ArrayList<>();
        private String toWrite = "";
        private int made;

        private Side(String name) {
            this.name = name;
        }

        private boolean callOnce(Random random) {
            String call;
            int[] a;
            if (toWrite.isEmpty() && (made == 3 || random.nextInt(150) == 0)) {
                toWrite = randomText(random);
            }
            if (!toWrite.isEmpty()) {
                call = "letter";
                a = new int[] {toWrite.charAt(0)};
                toWrite = toWrite.substring(1);
            } else {
                call = Model.CALLS[random.nextInt(Model.CALLS.length)];
                if (model.page.length() > 0 && random.nextInt(4) == 0) {
                    call = "house";
                }
                a = randomArguments(random, call, model);
            }
            made++;
            calls.add(call + java.util.Arrays.toString(a));
            long got = answer(x, call, a);
            long want = model.answer(call, a);
            if (got != want) {
                System.out.println("run " + name + ": " + calls + " answered " + got + ", due is " + want);
            }
            return got == want;
        }
    }

    private static String randomText(Random random) {
        int rooms = 2 + random.nextInt(5);
        if (random.nextInt(3) == 0) {
            rooms = 2;
        }
        StringBuilder text = new StringBuilder().append(rooms).append(';');
        int doors = 1 + random.nextInt(6);
        for (int door = 0; door < doors; door++) {
            text.append(door > 0 ? "," : "").append(unlike(random, rooms)).append("oooab".charAt(random.nextInt(5)));
        }
        int people = 2 + random.nextInt(3);
        for (int person = 0; person < people; person++) {
            text.append(person > 0 ? ',' : ';').append("prbhd".charAt(random.nextInt(5)));
            text.append(random.nextInt(10)).append(random.nextInt(rooms));
        }
        int debts = 1 + random.nextInt(4);
        int oneRoom = random.nextInt(rooms);
        boolean together = random.nextBoolean();
        for (int debt = 0; debt < debts; debt++) {
            text.append(debt > 0 ? ',' : ';').append(unlike(random, people));
            text.append(together ? oneRoom : random.nextInt(rooms)).append(1 + random.nextInt(9));
        }
        if (random.nextInt(5) == 0) {
            text.setCharAt(random.nextInt(text.length()), "0123456789;,oabprhd:/~".charAt(random.nextInt(22)));
        }
        if (random.nextInt(12) == 0) {
            text.setLength(random.nextInt(text.length()));
        }
        return text.toString();
    }

    private static String unlike(Random random, int bound) {
        int first = random.nextInt(bound);
        int second = (first + 1 + random.nextInt(bound - 1)) % bound;
        return "" + first + second;
    }

    private static int numberOr(Random random, int usual) {
        switch (random.nextInt(40)) {
            case 0: return -1;
            case 1: return Integer.MIN_VALUE;
            case 2: return Integer.MAX_VALUE;
            case 3: return random.nextInt(70);
            case 4: return random.nextInt(7);
            default: return usual;
        }
    }

    private static int below(Random random, int bound) {
        return numberOr(random, random.nextInt(Math.max(1, bound)));
    }

    private static int toldBy(Random random, int most) {
        return numberOr(random, random.nextInt(3) == 0 ? 0 : 10 + random.nextInt(most));
    }

    private static int[] randomArguments(Random random, String call, Model m) {
        int person = below(random, m.people);
        int debt = below(random, m.debts);
        switch (call) {
            case "letter": return new int[] {numberOr(random, 1 + random.nextInt(126))};
            case "person": return new int[] {person, below(random, 9)};
            case "as": return new int[] {person, below(random, 5)};
            case "door": return new int[] {below(random, m.doors), below(random, 3)};
            case "debt": return new int[] {debt, below(random, 6)};
            case "go": return new int[] {person, below(random, m.doors)};
            case "give": return new int[] {below(random, 2), person};
            case "pay": return new int[] {debt};
            case "earn": return new int[] {person, numberOr(random, 1 + random.nextInt(9))};
            case "owe": return new int[] {debt, numberOr(random, 1 + random.nextInt(9))};
            case "way": return new int[] {person, below(random, m.rooms), toldBy(random, 5)};
            case "night": return new int[] {person, below(random, 5), toldBy(random, 4)};
            case "cancel": return new int[] {below(random, m.rooms), toldBy(random, 4)};
            case "met": return new int[] {person, below(random, m.people), numberOr(random, 1 + random.nextInt(3)),
                below(random, 2)};
            case "see": return new int[] {debt, random.nextInt(2)};
            case "winters": return new int[] {numberOr(random, 1 + random.nextInt(60)),
                numberOr(random, random.nextInt() >>> 1), below(random, 3)};
            case "count": return new int[] {below(random, 13)};
            default: return new int[0];
        }
    }

    private static long answer(DebtRooms x, String call, int[] a) {
        switch (call) {
            case "letter": return x.letter(a[0]);
            case "blank": return x.blank();
            case "fault": return x.fault();
            case "house": return x.house();
            case "person": return x.person(a[0], a[1]);
            case "as": return x.as(a[0], a[1]);
            case "door": return x.door(a[0], a[1]);
            case "debt": return x.debt(a[0], a[1]);
            case "go": return x.go(a[0], a[1]);
            case "give": return x.give(a[0], a[1]);
            case "pay": return x.pay(a[0]);
            case "earn": return x.earn(a[0], a[1]);
            case "owe": return x.owe(a[0], a[1]);
            case "way": return x.way(a[0], a[1], a[2]);
            case "night": return x.night(a[0], a[1], a[2]);
            case "cancel": return x.cancel(a[0], a[1]);
            case "sound": return x.sound();
            case "met": return x.met(a[0], a[1], a[2], a[3]);
            case "see": return x.see(a[0], a[1] == 1);
            case "forget": return x.forget();
            case "winters": return x.winters(a[0], a[1], a[2]);
            case "image": return x.image();
            case "restore": return x.restore();
            case "count": return x.count(a[0]);
            default: return x.digest();
        }
    }

    /** The document, read once more. */
    private static final class Model {
        static final String[] CALLS = {"letter", "blank", "fault", "house", "person", "person", "person", "as", "door",
            "debt", "go", "go", "go", "give", "give", "pay", "pay", "pay", "earn", "owe", "way", "way", "night",
            "night", "cancel", "cancel", "sound", "met", "met", "see", "see", "forget", "winters", "winters", "image",
            "restore", "count", "digest"};
        static final List<Pattern> HOUSES = houses();

        String page = "";
        int readings;
        int rooms, doors, people, debts;
        String[] doorTexts, peopleTexts, debtTexts;
        Now now = new Now();
        Now kept;

        /** All that may change, as values of its own. */
        static final class Now {
            int[] purse = new int[0], room = new int[0], sum = new int[0];
            int[] holder = {0, 1};
            boolean[] paid = new boolean[0];
            int gone;
            List<int[]> seen = new ArrayList<>();

            Now copy() {
                Now other = new Now();
                other.purse = purse.clone();
                other.room = room.clone();
                other.sum = sum.clone();
                other.holder = holder.clone();
                other.paid = paid.clone();
                other.gone = gone;
                other.seen = new ArrayList<>(seen);
                return other;
            }
        }

        static List<Pattern> houses() {
            List<Pattern> all = new ArrayList<>();
            for (int r = 2; r <= 6; r++) {
                for (int p = 2; p <= 4; p++) {
                    String room = "[0-" + (r - 1) + "]";
                    String door = pairs(r) + "[oab]";
                    String person = "[prbhd][0-9]" + room;
                    String debt = pairs(p) + room + "[1-9]";
                    all.add(Pattern.compile(r + ";" + door + "(," + door + "){0,5};" + person + "(," + person + "){"
                        + (p - 1) + "};" + debt + "(," + debt + "){0,3}"));
                }
            }
            return all;
        }

        static String pairs(int bound) {
            StringBuilder text = new StringBuilder("(");
            for (int a = 0; a < bound; a++) {
                for (int b = 0; b < bound; b++) {
                    if (a != b) {
                        text.append(text.length() > 1 ? "|" : "").append(a).append(b);
                    }
                }
            }
            return text.append(")").toString();
        }

        boolean begins(String text) {
            for (Pattern house : HOUSES) {
                Matcher matcher = house.matcher(text);
                if (matcher.matches() || matcher.hitEnd()) {
                    return true;
                }
            }
            return false;
        }

        boolean isHouse(String text) {
            return HOUSES.stream().anyMatch(house -> house.matcher(text).matches());
        }

        int kind(int p) {
            return "prbhd".indexOf(peopleTexts[p].charAt(0));
        }

        boolean rich(int p) {
            return kind(p) == 1 || kind(p) == 4;
        }

        int end(int d, int which) {
            return doorTexts[d].charAt(which) - '0';
        }

        int lock(int d) {
            return "ab".indexOf(doorTexts[d].charAt(2));
        }

        int told(int debt, int which) {
            return debtTexts[debt].charAt(which) - '0';
        }

        int cost(Now n, int debt) {
            return n.sum[debt] + (kind(told(debt, 0)) == 1 ? 1 : 0);
        }

        /** Where he comes through a door; NONE, if he may not go. */
        int beyond(Now n, int p, int d) {
            int at = n.room[p];
            if (rich(p) || end(d, 0) != at && end(d, 1) != at) {
                return NONE;
            }
            if (lock(d) >= 0 && n.holder[lock(d)] != p && kind(p) != 2) {
                return NONE;
            }
            return end(d, 0) + end(d, 1) - at;
        }

        boolean mayPay(Now n, int debt) {
            int who = told(debt, 0);
            int where = told(debt, 2);
            if (n.paid[debt] || n.purse[who] < cost(n, debt)) {
                return false;
            }
            if (rich(who)) {
                return true;
            }
            return n.room[who] == where && (kind(who) == 3 || n.room[told(debt, 1)] == where);
        }

        int doPay(Now n, int debt) {
            n.purse[told(debt, 0)] -= cost(n, debt);
            n.purse[told(debt, 1)] = Math.min(99, n.purse[told(debt, 1)] + n.sum[debt]);
            n.paid[debt] = true;
            return n.sum[debt];
        }

        long answer(String call, int[] a) {
            switch (call) {
                case "letter": return letter(a[0]);
                case "blank": {
                    int had = page.length();
                    page = "";
                    return had;
                }
                case "fault": return fault();
                case "house": return house();
                case "person": return person(a[0], a[1]);
                case "as": return as(a[0], a[1]);
                case "door": return a[0] < 0 || a[0] >= doors ? UNKNOWN : a[1] < 0 || a[1] > 2 ? OUTSIDE
                    : a[1] < 2 ? end(a[0], a[1]) : lock(a[0]);
                case "debt": return debt(a[0], a[1]);
                case "go": return go(a[0], a[1]);
                case "give": return give(a[0], a[1]);
                case "pay": return pay(a[0]);
                case "earn": return earn(a[0], a[1]);
                case "owe": return owe(a[0], a[1]);
                case "way": return way(a[0], a[1], a[2]);
                case "night": return night(a[0], a[1], a[2]);
                case "cancel": return cancel(a[0], a[1]);
                case "sound": return sound();
                case "met": return met(a[0], a[1], a[2], a[3]);
                case "see": return see(a[0], a[1]);
                case "forget": {
                    int had = now.seen.size();
                    now.seen.clear();
                    return had;
                }
                case "winters": return winters(a[0], a[1], a[2]);
                case "image": {
                    if (people == 0) {
                        return STATE;
                    }
                    kept = now.copy();
                    return now.gone;
                }
                case "restore": {
                    if (kept == null) {
                        return STATE;
                    }
                    now = kept.copy();
                    return now.gone;
                }
                case "count": return count(a[0]);
                default: return digest();
            }
        }

        int letter(int code) {
            if (code < 1 || code > 126) {
                return OUTSIDE;
            }
            if (page.length() == 64) {
                return FULL;
            }
            page += (char) code;
            return page.length();
        }

        int fault() {
            for (int many = 1; many <= page.length(); many++) {
                if (!begins(page.substring(0, many))) {
                    return many - 1;
                }
            }
            return page.length();
        }

        int house() {
            if (!isHouse(page)) {
                return STATE;
            }
            String[] parts = page.split(";");
            rooms = Integer.parseInt(parts[0]);
            doorTexts = parts[1].split(",");
            peopleTexts = parts[2].split(",");
            debtTexts = parts[3].split(",");
            doors = doorTexts.length;
            people = peopleTexts.length;
            debts = debtTexts.length;
            now = new Now();
            now.purse = new int[people];
            now.room = new int[people];
            for (int p = 0; p < people; p++) {
                now.purse[p] = peopleTexts[p].charAt(1) - '0';
                now.room[p] = peopleTexts[p].charAt(2) - '0';
            }
            now.sum = new int[debts];
            now.paid = new boolean[debts];
            for (int d = 0; d < debts; d++) {
                now.sum[d] = told(d, 3);
            }
            kept = null;
            page = "";
            readings++;
            return people;
        }

        boolean nobody(int p) {
            return p < 0 || p >= people;
        }

        int person(int p, int what) {
            if (nobody(p)) {
                return UNKNOWN;
            }
            if (what < 0 || what > 8) {
                return OUTSIDE;
            }
            int bits = 0;
            switch (what) {
                case 0: return kind(p);
                case 1: return now.purse[p];
                case 2: return now.room[p];
                case 3: return (now.holder[0] == p ? 1 : 0) + (now.holder[1] == p ? 2 : 0);
                case 4:
                    for (int d = 0; d < doors; d++) {
                        bits += beyond(now, p, d) != NONE ? 1 << d : 0;
                    }
                    return bits;
                case 5:
                    for (int d = 0; d < debts; d++) {
                        bits += told(d, 0) == p && mayPay(now, d) ? 1 << d : 0;
                    }
                    return bits;
                case 6: {
                    int standing = 100 + now.purse[p];
                    for (int d = 0; d < debts; d++) {
                        standing += now.paid[d] ? 0 : told(d, 1) == p ? now.sum[d] : told(d, 0) == p ? -now.sum[d] : 0;
                    }
                    return standing;
                }
                case 7:
                    for (int much : purses(p, now.seen)) {
                        bits += 1 << much;
                    }
                    return bits;
                default: return press(p);
            }
        }

        List<Integer> purses(int p, List<int[]> seen) {
            List<Integer> can = new ArrayList<>();
            for (int much = 0; much <= 9; much++) {
                boolean fits = true;
                for (int[] one : seen) {
                    boolean could = much >= cost(now, one[0]);
                    fits &= told(one[0], 0) != p || could == (one[1] == 1);
                }
                if (fits) {
                    can.add(much);
                }
            }
            return can;
        }

        int press(int p) {
            if (purses(p, now.seen).isEmpty()) {
                return NONE;
            }
            int best = NONE;
            int fewest = 99;
            for (int d = debts - 1; d >= 0; d--) {
                if (told(d, 0) == p) {
                    int worst = 0;
                    for (int could = 0; could < 2; could++) {
                        List<int[]> more = new ArrayList<>(now.seen);
                        more.add(new int[] {d, could});
                        worst = Math.max(worst, purses(p, more).size());
                    }
                    if (worst <= fewest) {
                        fewest = worst;
                        best = d;
                    }
                }
            }
            return best;
        }

        int as(int p, int kind) {
            if (nobody(p)) {
                return UNKNOWN;
            }
            if (kind < 0 || kind > 4) {
                return OUTSIDE;
            }
            return kind == 0 || kind == kind(p) || kind == 1 && kind(p) == 4 ? p : NONE;
        }

        int debt(int d, int what) {
            if (d < 0 || d >= debts) {
                return UNKNOWN;
            }
            switch (what) {
                case 0:
                case 1:
                case 2: return told(d, what);
                case 3: return now.sum[d];
                case 4: return cost(now, d);
                case 5: return now.paid[d] ? 1 : 0;
                default: return OUTSIDE;
            }
        }

        int go(int p, int d) {
            if (nobody(p) || d < 0 || d >= doors) {
                return UNKNOWN;
            }
            if (beyond(now, p, d) == NONE) {
                return STATE;
            }
            if (now.gone == 999) {
                return FULL;
            }
            now.room[p] = beyond(now, p, d);
            now.gone++;
            return now.room[p];
        }

        int give(int key, int p) {
            if (key < 0 || key > 1 || nobody(p)) {
                return UNKNOWN;
            }
            int had = now.holder[key];
            if (had == p || now.room[had] != now.room[p]) {
                return STATE;
            }
            now.holder[key] = p;
            return had;
        }

        int pay(int d) {
            if (d < 0 || d >= debts) {
                return UNKNOWN;
            }
            if (!mayPay(now, d)) {
                return STATE;
            }
            doPay(now, d);
            return now.purse[told(d, 0)];
        }

        int earn(int p, int much) {
            if (nobody(p)) {
                return UNKNOWN;
            }
            if (much < 1 || much > 9) {
                return OUTSIDE;
            }
            return now.purse[p] + much > 99 ? FULL : (now.purse[p] += much);
        }

        int owe(int d, int sum) {
            if (d < 0 || d >= debts) {
                return UNKNOWN;
            }
            if (sum < 1 || sum > 9) {
                return OUTSIDE;
            }
            int was = now.sum[d];
            now.sum[d] = sum;
            now.paid[d] = false;
            return was;
        }

        int way(int p, int room, int what) {
            if (nobody(p) || room < 0 || room >= rooms) {
                return UNKNOWN;
            }
            if (what != 0 && (what < 10 || what > 14)) {
                return OUTSIDE;
            }
            for (int many = 0; many <= 5; many++) {
                List<Integer> path = new ArrayList<>();
                if (find(now, p, room, many, path)) {
                    return what == 0 ? many : what - 10 < many ? path.get(what - 10) : NONE;
                }
            }
            return NONE;
        }

        boolean find(Now n, int p, int room, int many, List<Integer> path) {
            if (many == 0) {
                return n.room[p] == room;
            }
            for (int d = 0; d < doors; d++) {
                if (beyond(n, p, d) != NONE) {
                    Now there = n.copy();
                    there.room[p] = beyond(n, p, d);
                    path.add(d);
                    if (find(there, p, room, many - 1, path)) {
                        return true;
                    }
                    path.remove(path.size() - 1);
                }
            }
            return false;
        }

        int night(int p, int many, int what) {
            if (nobody(p)) {
                return UNKNOWN;
            }
            if (many < 0 || many > 4 || what != 0 && (what < 10 || what > 13)) {
                return OUTSIDE;
            }
            int most = NONE;
            int[] best = new int[0];
            int all = (int) Math.pow(doors, many);
            for (int number = 0; number < all; number++) {
                int[] path = new int[many];
                int rest = number;
                for (int at = many - 1; at >= 0; at--) {
                    path[at] = rest % doors;
                    rest /= doors;
                }
                int much = paidBy(p, path);
                if (much > most) {
                    most = much;
                    best = path;
                }
            }
            return what == 0 ? most : what - 10 < best.length ? best[what - 10] : NONE;
        }

        int paidBy(int p, int[] path) {
            Now n = now.copy();
            int much = 0;
            for (int at = 0; at <= path.length; at++) {
                for (int d = 0; d < debts; d++) {
                    if (told(d, 0) == p && told(d, 2) == n.room[p] && mayPay(n, d)) {
                        much += doPay(n, d);
                    }
                }
                if (at < path.length) {
                    int next = beyond(n, p, path[at]);
                    if (next == NONE) {
                        return NONE;
                    }
                    n.room[p] = next;
                }
            }
            return much;
        }

        int cancel(int room, int what) {
            if (room < 0 || room >= rooms) {
                return UNKNOWN;
            }
            if (what != 0 && (what < 10 || what > 13)) {
                return OUTSIDE;
            }
            int[] most = new int[4];
            boolean[] here = new boolean[4];
            for (int d = 0; d < debts; d++) {
                here[d] = told(d, 2) == room && !now.paid[d];
                most[d] = here[d] ? now.sum[d] : 0;
            }
            int best = NONE;
            int[] by = new int[4];
            int[] x = new int[4];
            for (x[0] = 0; x[0] <= most[0]; x[0]++) {
                for (x[1] = 0; x[1] <= most[1]; x[1]++) {
                    for (x[2] = 0; x[2] <= most[2]; x[2]++) {
                        for (x[3] = 0; x[3] <= most[3]; x[3]++) {
                            int all = x[0] + x[1] + x[2] + x[3];
                            if (all > best && isEven(x)) {
                                best = all;
                                by = x.clone();
                            }
                        }
                    }
                }
            }
            return what == 0 ? best : here[what - 10] ? by[what - 10] : NONE;
        }

        boolean isEven(int[] x) {
            for (int p = 0; p < people; p++) {
                int less = 0;
                for (int d = 0; d < debts; d++) {
                    less += told(d, 0) == p ? x[d] : told(d, 1) == p ? -x[d] : 0;
                }
                if (less != 0) {
                    return false;
                }
            }
            return true;
        }

        int sound() {
            if (people == 0) {
                return STATE;
            }
            Now n = now.copy();
            boolean again = true;
            while (again) {
                again = false;
                for (int p = people - 1; p >= 0; p--) {
                    int all = 0;
                    int many = 0;
                    for (int d = 0; d < debts; d++) {
                        if (told(d, 0) == p && !n.paid[d]) {
                            all += cost(n, d);
                            many++;
                        }
                    }
                    if (many > 0 && n.purse[p] >= all) {
                        for (int d = 0; d < debts; d++) {
                            if (told(d, 0) == p && !n.paid[d]) {
                                doPay(n, d);
                            }
                        }
                        again = true;
                    }
                }
            }
            int bits = (1 << people) - 1;
            for (int d = 0; d < debts; d++) {
                bits &= n.paid[d] ? -1 : ~(1 << told(d, 0));
            }
            return bits;
        }

        int met(int p, int other, int hours, int what) {
            if (nobody(p) || nobody(other) || p == other) {
                return UNKNOWN;
            }
            if (hours < 1 || hours > 3 || what < 0 || what > 1) {
                return OUTSIDE;
            }
            BigInteger[] part = likely(now, p, now.room[other], hours);
            return part[what].divide(part[0].gcd(part[1])).intValue();
        }

        BigInteger[] likely(Now n, int p, int room, int hours) {
            if (n.room[p] == room) {
                return new BigInteger[] {BigInteger.ONE, BigInteger.ONE};
            }
            BigInteger above = BigInteger.ZERO;
            BigInteger below = BigInteger.ONE;
            if (hours == 0) {
                return new BigInteger[] {above, below};
            }
            int many = 0;
            for (int d = 0; d < doors; d++) {
                if (beyond(n, p, d) != NONE) {
                    Now there = n.copy();
                    there.room[p] = beyond(n, p, d);
                    BigInteger[] more = likely(there, p, room, hours - 1);
                    above = above.multiply(more[1]).add(more[0].multiply(below));
                    below = below.multiply(more[1]);
                    many++;
                }
            }
            return new BigInteger[] {above, below.multiply(BigInteger.valueOf(Math.max(1, many)))};
        }

        int see(int d, int could) {
            if (d < 0 || d >= debts) {
                return UNKNOWN;
            }
            if (now.seen.size() == 6) {
                return FULL;
            }
            now.seen.add(new int[] {d, could});
            return now.seen.size();
        }

        int winters(int times, int seed, int what) {
            if (times < 1 || times > 60 || seed < 0 || what < 0 || what > 2) {
                return OUTSIDE;
            }
            if (people == 0) {
                return STATE;
            }
            Now n = now.copy();
            int much = 0;
            BigInteger s = BigInteger.valueOf(seed);
            for (int time = 0; time < times; time++) {
                s = next(s);
                int p = s.intValueExact() / 65536 % people;
                s = next(s);
                int door = s.intValueExact() / 65536 % doors;
                if (beyond(n, p, door) != NONE) {
                    n.room[p] = beyond(n, p, door);
                }
                for (int d = 0; d < debts; d++) {
                    if (told(d, 0) == p && mayPay(n, d)) {
                        much += doPay(n, d);
                    }
                }
            }
            int many = 0;
            for (boolean paid : n.paid) {
                many += paid ? 1 : 0;
            }
            return what == 0 ? much : what == 1 ? many : s.intValueExact();
        }

        BigInteger next(BigInteger s) {
            return s.multiply(BigInteger.valueOf(1103515245L)).add(BigInteger.valueOf(12345L))
                .mod(BigInteger.ONE.shiftLeft(31));
        }

        int count(int what) {
            int paid = 0;
            int left = 0;
            for (int d = 0; d < debts; d++) {
                paid += now.paid[d] ? 1 : 0;
                left += now.paid[d] ? 0 : now.sum[d];
            }
            int all = 0;
            for (int purse : now.purse) {
                all += purse;
            }
            int[] told = {rooms, doors, people, debts, paid, left, all, now.gone, people > 0 ? now.holder[0] : NONE,
                people > 0 ? now.holder[1] : NONE, now.seen.size(), page.length(), readings};
            return what < 0 || what >= told.length ? OUTSIDE : told[what];
        }

        long digest() {
            List<Integer> told = new ArrayList<>();
            for (int p = 0; p < people; p++) {
                for (int what = 0; what <= 8; what++) {
                    told.add(person(p, what));
                }
                for (int room = 0; room < rooms; room++) {
                    told.add(way(p, room, 0));
                    told.add(way(p, room, 10));
                }
                told.add(night(p, 2, 0));
                told.add(night(p, 2, 10));
                told.add(night(p, 2, 11));
            }
            for (int d = 0; d < doors; d++) {
                told.add(end(d, 0));
                told.add(end(d, 1));
                told.add(lock(d));
            }
            for (int d = 0; d < debts; d++) {
                for (int what = 0; what <= 5; what++) {
                    told.add(debt(d, what));
                }
            }
            for (int room = 0; room < rooms; room++) {
                told.add(cancel(room, 0));
            }
            if (people > 0) {
                told.add(sound());
                told.add(met(0, 1, 2, 0));
                told.add(met(0, 1, 2, 1));
            }
            for (char sign : page.toCharArray()) {
                told.add((int) sign);
            }
            for (int what = 0; what <= 12; what++) {
                told.add(count(what));
            }
            long h = 1223L;
            for (int number : told) {
                h = 31L * h + number;
            }
            return h;
        }
    }
}
