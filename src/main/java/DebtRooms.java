/** An old house in which each debt is to be paid in a room of its own. */
public final class DebtRooms {
    public static final int NONE = -1, UNKNOWN = -101, OUTSIDE = -102, STATE = -103, FULL = -104;

    private static final int MOST_ROOMS = 6, MOST_DOORS = 6, MOST_PEOPLE = 4, MOST_DEBTS = 4;
    private static final int KEYS = 2, MOST_SEEN = 6, MOST_LETTERS = 64;
    private static final int MOST_PURSE = 99, MOST_GONE = 999, MOST_SUM = 9;
    private static final int MOST_NIGHT = 4, MOST_HOURS = 3, MOST_TIMES = 60;
    private static final int PLAIN = 0, RICH = 1, BLIND = 2, HEIR = 3, DUKE = 4;
    private static final int PURSES_SEEN = 10, STANDING_ZERO = 100;

    private final Page page = new Page();
    private final House plan = new House();
    private final Affairs now = new Affairs(plan);
    private final Affairs kept = new Affairs(plan);
    private final Affairs trial = new Affairs(plan);
    private final Walks walks = new Walks(plan);
    private final Nights nights = new Nights(plan);
    private final Rings rings = new Rings(plan);
    private boolean isKept;
    private int readings;

    public DebtRooms() {
        isKept = false;
        readings = 0;
    }

    // ---- the house

    public int letter(int code) {
        if (code < 1 || code > 126) {
            return OUTSIDE;
        }
        return page.append(code) ? page.length : FULL;
    }

    public int blank() {
        int had = page.length;
        page.length = 0;
        return had;
    }

    public int fault() {
        page.scan();
        return page.faultAt;
    }

    public int house() {
        page.scan();
        if (!page.isWhole) {
            return STATE;
        }
        page.readHouse(plan);
        page.readAffairs(now);
        page.length = 0;
        isKept = false;
        readings++;
        return plan.people;
    }

    public int person(int person, int what) {
        if (isNobody(person)) {
            return UNKNOWN;
        }
        switch (what) {
            case 0: return plan.kinds[person].number();
            case 1: return now.purse[person];
            case 2: return now.room[person];
            case 3: return now.keyBits(person);
            case 4: return now.doorBits(person);
            case 5: return now.payableBits(person);
            case 6: return now.standing(person);
            case 7: return now.purseBits(person);
            case 8: return now.debtToPress(person);
            default: return OUTSIDE;
        }
    }

    public int as(int person, int kind) {
        if (isNobody(person)) {
            return UNKNOWN;
        }
        if (kind < PLAIN || kind > DUKE) {
            return OUTSIDE;
        }
        return plan.isOfKind(person, kind) ? person : NONE;
    }

    public int door(int door, int what) {
        if (isNoDoor(door)) {
            return UNKNOWN;
        }
        switch (what) {
            case 0: return plan.oneEnd[door];
            case 1: return plan.otherEnd[door];
            case 2: return plan.lock[door];
            default: return OUTSIDE;
        }
    }

    public int debt(int debt, int what) {
        if (isNoDebt(debt)) {
            return UNKNOWN;
        }
        switch (what) {
            case 0: return plan.debtor[debt];
            case 1: return plan.creditor[debt];
            case 2: return plan.debtRoom[debt];
            case 3: return now.sum[debt];
            case 4: return now.costOf(debt);
            case 5: return now.paid[debt] ? 1 : 0;
            default: return OUTSIDE;
        }
    }

    // ---- what is done

    public int go(int person, int door) {
        if (isNobody(person) || isNoDoor(door)) {
            return UNKNOWN;
        }
        if (!now.mayGo(person, door)) {
            return STATE;
        }
        if (now.gone >= MOST_GONE) {
            return FULL;
        }
        now.goThrough(person, door);
        return now.room[person];
    }

    public int give(int key, int person) {
        if (key < 0 || key >= KEYS || isNobody(person)) {
            return UNKNOWN;
        }
        int holder = now.holder[key];
        if (holder == person || now.room[holder] != now.room[person]) {
            return STATE;
        }
        now.holder[key] = person;
        return holder;
    }

    public int pay(int debt) {
        if (isNoDebt(debt)) {
            return UNKNOWN;
        }
        if (!now.mayPay(debt)) {
            return STATE;
        }
        now.settle(debt);
        return now.purse[plan.debtor[debt]];
    }

    public int earn(int person, int much) {
        if (isNobody(person)) {
            return UNKNOWN;
        }
        if (much < 1 || much > 9) {
            return OUTSIDE;
        }
        if (now.purse[person] + much > MOST_PURSE) {
            return FULL;
        }
        now.purse[person] += much;
        return now.purse[person];
    }

    public int owe(int debt, int sum) {
        if (isNoDebt(debt)) {
            return UNKNOWN;
        }
        if (sum < 1 || sum > MOST_SUM) {
            return OUTSIDE;
        }
        int was = now.sum[debt];
        now.sum[debt] = sum;
        now.paid[debt] = false;
        return was;
    }

    // ---- what would be

    public int way(int person, int room, int what) {
        if (isNobody(person) || isNoRoom(room)) {
            return UNKNOWN;
        }
        if (what == 0) {
            return walks.wayLength(now, person, room);
        }
        if (what < 10 || what > 14) {
            return OUTSIDE;
        }
        return walks.wayDoor(now, person, room, what - 10);
    }

    public int night(int person, int doors, int what) {
        if (isNobody(person)) {
            return UNKNOWN;
        }
        if (doors < 0 || doors > MOST_NIGHT || what != 0 && (what < 10 || what > 13)) {
            return OUTSIDE;
        }
        nights.search(now, person, doors);
        return what == 0 ? nights.most : nights.doorAt(what - 10, doors);
    }

    public int cancel(int room, int what) {
        if (isNoRoom(room)) {
            return UNKNOWN;
        }
        if (what != 0 && (what < 10 || what > 13)) {
            return OUTSIDE;
        }
        rings.search(now, room);
        return what == 0 ? rings.most : rings.best[what - 10];
    }

    public int sound() {
        if (plan.people == 0) {
            return STATE;
        }
        trial.takeOver(now);
        return trial.payWhoCan();
    }

    public int met(int person, int other, int hours, int what) {
        if (isNobody(person) || isNobody(other) || person == other) {
            return UNKNOWN;
        }
        if (hours < 1 || hours > MOST_HOURS || what < 0 || what > 1) {
            return OUTSIDE;
        }
        int parts = walks.metParts(now, person, now.room[other], hours);
        int divisor = commonDivisor(parts, Walks.WHOLE);
        return (what == 0 ? parts : Walks.WHOLE) / divisor;
    }

    // ---- what is seen

    public int see(int debt, boolean could) {
        if (isNoDebt(debt)) {
            return UNKNOWN;
        }
        if (now.seen >= MOST_SEEN) {
            return FULL;
        }
        now.seenDebt[now.seen] = debt;
        now.seenCould[now.seen] = could;
        now.seen++;
        return now.seen;
    }

    public int forget() {
        int had = now.seen;
        now.seen = 0;
        return had;
    }

    public int winters(int times, int seed, int what) {
        if (times < 1 || times > MOST_TIMES || seed < 0 || what < 0 || what > 2) {
            return OUTSIDE;
        }
        if (plan.people == 0 || plan.doors == 0) {
            return STATE;
        }
        trial.takeOver(now);
        int drawn = seed;
        int much = 0;
        for (int time = 0; time < times; time++) {
            drawn = nextSeed(drawn);
            int person = (drawn / 65536) % plan.people;
            drawn = nextSeed(drawn);
            int door = (drawn / 65536) % plan.doors;
            if (trial.mayGo(person, door)) {
                trial.goThrough(person, door);
            }
            much += trial.payAll(person, false);
        }
        if (what == 0) {
            return much;
        }
        return what == 1 ? trial.paidDebts() : drawn;
    }

    // ---- what is told of all

    public int image() {
        if (plan.people == 0) {
            return STATE;
        }
        kept.takeOver(now);
        isKept = true;
        return now.gone;
    }

    public int restore() {
        if (!isKept) {
            return STATE;
        }
        now.takeOver(kept);
        return now.gone;
    }

    public int count(int what) {
        switch (what) {
            case 0: return plan.rooms;
            case 1: return plan.doors;
            case 2: return plan.people;
            case 3: return plan.debts;
            case 4: return now.paidDebts();
            case 5: return now.sumsNotPaid();
            case 6: return now.allPurses();
            case 7: return now.gone;
            case 8: return plan.people == 0 ? NONE : now.holder[0];
            case 9: return plan.people == 0 ? NONE : now.holder[1];
            case 10: return now.seen;
            case 11: return page.length;
            case 12: return readings;
            default: return OUTSIDE;
        }
    }

    public long digest() {
        long h = 1223L;
        for (int person = 0; person < plan.people; person++) {
            h = mixPerson(h, person);
        }
        for (int door = 0; door < plan.doors; door++) {
            for (int what = 0; what <= 2; what++) {
                h = mix(h, door(door, what));
            }
        }
        for (int debt = 0; debt < plan.debts; debt++) {
            for (int what = 0; what <= 5; what++) {
                h = mix(h, debt(debt, what));
            }
        }
        for (int room = 0; room < plan.rooms; room++) {
            h = mix(h, cancel(room, 0));
        }
        if (plan.people > 0) {
            h = mix(h, sound());
            h = mix(h, met(0, 1, 2, 0));
            h = mix(h, met(0, 1, 2, 1));
        }
        for (int at = 0; at < page.length; at++) {
            h = mix(h, page.letters[at]);
        }
        for (int what = 0; what <= 12; what++) {
            h = mix(h, count(what));
        }
        return h;
    }

    private long mixPerson(long before, int person) {
        long h = before;
        for (int what = 0; what <= 8; what++) {
            h = mix(h, person(person, what));
        }
        for (int room = 0; room < plan.rooms; room++) {
            h = mix(h, way(person, room, 0));
            h = mix(h, way(person, room, 10));
        }
        nights.search(now, person, 2);
        h = mix(h, nights.most);
        h = mix(h, nights.doorAt(0, 2));
        return mix(h, nights.doorAt(1, 2));
    }

    private static long mix(long h, int number) {
        return 31L * h + number;
    }

    // Without a house all the plan's counts are 0, so that every number is unknown then.

    private boolean isNobody(int person) {
        return person < 0 || person >= plan.people;
    }

    private boolean isNoDoor(int door) {
        return door < 0 || door >= plan.doors;
    }

    private boolean isNoDebt(int debt) {
        return debt < 0 || debt >= plan.debts;
    }

    private boolean isNoRoom(int room) {
        return room < 0 || room >= plan.rooms;
    }

    private static int nextSeed(int seed) {
        return (int) ((1103515245L * seed + 12345L) & 0x7fffffffL);
    }

    /** Never 0, as long as b is above 0. */
    private static int commonDivisor(int a, int b) {
        int larger = b;
        int smaller = a;
        // Euclid's rests fall below a half every second step: 64 are enough for any int.
        for (int step = 0; step < 64 && smaller > 0; step++) {
            int rest = larger % smaller;
            larger = smaller;
            smaller = rest;
        }
        return larger > 0 ? larger : 1;
    }

    /** The letters that came, and whether they are a house, read one by one. */
    private static final class Page {
        private static final int IN_ROOMS = 0, IN_DOORS = 1, IN_PEOPLE = 2, IN_DEBTS = 3;
        private static final String KIND_LETTERS = "prbhd", LOCK_LETTERS = "oab";

        private final int[] letters = new int[MOST_LETTERS];
        private int length;
        private int faultAt;
        private boolean isWhole;
        private int part, field, first;
        private int rooms, doors, people, debts;

        private boolean append(int code) {
            if (length >= MOST_LETTERS) {
                return false;
            }
            letters[length] = code;
            length++;
            return true;
        }

        private void scan() {
            part = IN_ROOMS;
            field = 0;
            first = 0;
            rooms = 0;
            doors = 0;
            people = 0;
            debts = 0;
            isWhole = false;
            for (int at = 0; at < length; at++) {
                if (!takes((char) letters[at])) {
                    faultAt = at;
                    return;
                }
            }
            faultAt = length;
            isWhole = part == IN_DEBTS && field == 4;
        }

        private boolean takes(char sign) {
            switch (part) {
                case IN_ROOMS: return takesInRooms(sign);
                case IN_DOORS: return takesInDoors(sign);
                case IN_PEOPLE: return takesInPeople(sign);
                default: return takesInDebts(sign);
            }
        }

        private boolean takesInRooms(char sign) {
            if (field == 0) {
                rooms = sign - '0';
                return takesIf(rooms >= 2 && rooms <= MOST_ROOMS);
            }
            return sign == ';' && opens(IN_DOORS);
        }

        private boolean takesInDoors(char sign) {
            switch (field) {
                case 0: return takesFirst(sign, rooms);
                case 1: return takesOther(sign, rooms);
                case 2:
                    doors++;
                    return takesIf(LOCK_LETTERS.indexOf(sign) >= 0);
                default:
                    if (sign == ',') {
                        return doors < MOST_DOORS && opens(IN_DOORS);
                    }
                    return sign == ';' && opens(IN_PEOPLE);
            }
        }

        private boolean takesInPeople(char sign) {
            switch (field) {
                case 0: return takesIf(KIND_LETTERS.indexOf(sign) >= 0);
                case 1: return takesIf(isDigitBelow(sign, 10));
                case 2:
                    people++;
                    return takesIf(isDigitBelow(sign, rooms));
                default:
                    if (sign == ',') {
                        return people < MOST_PEOPLE && opens(IN_PEOPLE);
                    }
                    return sign == ';' && people >= 2 && opens(IN_DEBTS);
            }
        }

        private boolean takesInDebts(char sign) {
            switch (field) {
                case 0: return takesFirst(sign, people);
                case 1: return takesOther(sign, people);
                case 2: return takesIf(isDigitBelow(sign, rooms));
                case 3:
                    debts++;
                    return takesIf(sign != '0' && isDigitBelow(sign, 10));
                default: return sign == ',' && debts < MOST_DEBTS && opens(IN_DEBTS);
            }
        }

        private boolean takesFirst(char sign, int bound) {
            first = sign - '0';
            return takesIf(isDigitBelow(sign, bound));
        }

        private boolean takesOther(char sign, int bound) {
            return takesIf(isDigitBelow(sign, bound) && sign - '0' != first);
        }

        private boolean takesIf(boolean fits) {
            field++;
            return fits;
        }

        private boolean opens(int next) {
            part = next;
            field = 0;
            return true;
        }

        private static boolean isDigitBelow(char sign, int bound) {
            return sign >= '0' && sign - '0' < bound;
        }

        // Every door and person has four letters with the sign behind it, every debt five:
        // so the places follow from the counts of a page that was scanned as whole.

        private int digitAt(int at) {
            return at >= 0 && at < MOST_LETTERS ? letters[at] - '0' : 0;
        }

        private int placeIn(String signs, int at) {
            return at >= 0 && at < MOST_LETTERS ? signs.indexOf((char) letters[at]) : NONE;
        }

        private int peopleAt() {
            return 2 + 4 * doors;
        }

        private int debtsAt() {
            return peopleAt() + 4 * people;
        }

        private void readHouse(House plan) {
            plan.rooms = rooms;
            plan.doors = doors;
            plan.people = people;
            plan.debts = debts;
            for (int door = 0; door < doors; door++) {
                int at = 2 + 4 * door;
                plan.oneEnd[door] = digitAt(at);
                plan.otherEnd[door] = digitAt(at + 1);
                plan.lock[door] = placeIn(LOCK_LETTERS, at + 2) - 1;
            }
            for (int person = 0; person < people; person++) {
                plan.kinds[person] = House.newOfKind(placeIn(KIND_LETTERS, peopleAt() + 4 * person));
            }
            for (int debt = 0; debt < debts; debt++) {
                int at = debtsAt() + 5 * debt;
                plan.debtor[debt] = digitAt(at);
                plan.creditor[debt] = digitAt(at + 1);
                plan.debtRoom[debt] = digitAt(at + 2);
            }
        }

        private void readAffairs(Affairs affairs) {
            for (int person = 0; person < people; person++) {
                int at = peopleAt() + 4 * person;
                affairs.purse[person] = digitAt(at + 1);
                affairs.room[person] = digitAt(at + 2);
            }
            for (int debt = 0; debt < debts; debt++) {
                affairs.sum[debt] = digitAt(debtsAt() + 5 * debt + 3);
                affairs.paid[debt] = false;
            }
            for (int key = 0; key < KEYS; key++) {
                affairs.holder[key] = key;
            }
            affairs.gone = 0;
            affairs.seen = 0;
        }
    }

    /** A plain person; the other kinds tell where they differ. */
    private static class Person {
        int number() {
            return PLAIN;
        }

        boolean passes(boolean isLocked, boolean hasKey) {
            return !isLocked || hasKey;
        }

        int costOfSum(int sum) {
            return sum;
        }

        boolean mayPayFrom(boolean isThere, boolean otherIsThere) {
            return isThere && otherIsThere;
        }
    }

    private static class Rich extends Person {
        int number() {
            return RICH;
        }

        boolean passes(boolean isLocked, boolean hasKey) {
            return false;
        }

        int costOfSum(int sum) {
            return sum + 1;
        }

        boolean mayPayFrom(boolean isThere, boolean otherIsThere) {
            return true;
        }
    }

    private static final class Duke extends Rich {
        int number() {
            return DUKE;
        }

        int costOfSum(int sum) {
            return sum;
        }
    }

    private static final class Blind extends Person {
        int number() {
            return BLIND;
        }

        boolean passes(boolean isLocked, boolean hasKey) {
            return true;
        }
    }

    private static final class Heir extends Person {
        int number() {
            return HEIR;
        }

        boolean mayPayFrom(boolean isThere, boolean otherIsThere) {
            return isThere;
        }
    }

    /** What does not change in a house, once it is read. */
    private static final class House {
        private int rooms, doors, people, debts;
        private final int[] oneEnd = new int[MOST_DOORS];
        private final int[] otherEnd = new int[MOST_DOORS];
        private final int[] lock = new int[MOST_DOORS];
        private final Person[] kinds = new Person[MOST_PEOPLE];
        private final int[] debtor = new int[MOST_DEBTS];
        private final int[] creditor = new int[MOST_DEBTS];
        private final int[] debtRoom = new int[MOST_DEBTS];

        private House() {
            // No place is ever null, so that nobody has to ask.
            for (int person = 0; person < MOST_PEOPLE; person++) {
                kinds[person] = new Person();
            }
        }

        private static Person newOfKind(int kind) {
            switch (kind) {
                case RICH: return new Rich();
                case BLIND: return new Blind();
                case HEIR: return new Heir();
                case DUKE: return new Duke();
                default: return new Person();
            }
        }

        private boolean isOfKind(int person, int kind) {
            Person one = kinds[person];
            switch (kind) {
                case PLAIN: return true;
                case RICH: return one instanceof Rich;
                case BLIND: return one instanceof Blind;
                case HEIR: return one instanceof Heir;
                default: return one instanceof Duke;
            }
        }

        private boolean doorEndsAt(int door, int room) {
            return oneEnd[door] == room || otherEnd[door] == room;
        }

        private int roomBeyond(int door, int room) {
            return oneEnd[door] == room ? otherEnd[door] : oneEnd[door];
        }
    }

    /** What changes in a house, as it is, was or would be, and the rules by which it does. */
    private static final class Affairs {
        private final House plan;
        private final int[] purse = new int[MOST_PEOPLE];
        private final int[] room = new int[MOST_PEOPLE];
        private final int[] holder = new int[KEYS];
        private final int[] sum = new int[MOST_DEBTS];
        private final boolean[] paid = new boolean[MOST_DEBTS];
        private final int[] seenDebt = new int[MOST_SEEN];
        private final boolean[] seenCould = new boolean[MOST_SEEN];
        private int seen, gone;

        private Affairs(House plan) {
            this.plan = plan;
        }

        private void takeOver(Affairs other) {
            for (int person = 0; person < MOST_PEOPLE; person++) {
                purse[person] = other.purse[person];
                room[person] = other.room[person];
            }
            for (int key = 0; key < KEYS; key++) {
                holder[key] = other.holder[key];
            }
            for (int debt = 0; debt < MOST_DEBTS; debt++) {
                sum[debt] = other.sum[debt];
                paid[debt] = other.paid[debt];
            }
            for (int at = 0; at < MOST_SEEN; at++) {
                seenDebt[at] = other.seenDebt[at];
                seenCould[at] = other.seenCould[at];
            }
            seen = other.seen;
            gone = other.gone;
        }

        /** Whether he may go through the door, once he is at one of its ends. */
        private boolean mayPass(int person, int door) {
            int lock = plan.lock[door];
            boolean isLocked = lock >= 0 && lock < KEYS;
            boolean hasKey = isLocked && holder[lock] == person;
            return plan.kinds[person].passes(isLocked, hasKey);
        }

        private boolean mayGo(int person, int door) {
            return plan.doorEndsAt(door, room[person]) && mayPass(person, door);
        }

        private void goThrough(int person, int door) {
            room[person] = plan.roomBeyond(door, room[person]);
            gone++;
        }

        private int costOf(int debt) {
            return plan.kinds[plan.debtor[debt]].costOfSum(sum[debt]);
        }

        private boolean mayPay(int debt) {
            int who = plan.debtor[debt];
            if (paid[debt] || purse[who] < costOf(debt)) {
                return false;
            }
            int where = plan.debtRoom[debt];
            return plan.kinds[who].mayPayFrom(room[who] == where, room[plan.creditor[debt]] == where);
        }

        private void settle(int debt) {
            int whom = plan.creditor[debt];
            purse[plan.debtor[debt]] -= costOf(debt);
            purse[whom] = Math.min(MOST_PURSE, purse[whom] + sum[debt]);
            paid[debt] = true;
        }

        /** He pays what he may, by number; the sums together. */
        private int payAll(int person, boolean onlyWhereHeIs) {
            int much = 0;
            for (int debt = 0; debt < plan.debts; debt++) {
                boolean isAsked = !onlyWhereHeIs || plan.debtRoom[debt] == room[person];
                if (isAsked && plan.debtor[debt] == person && mayPay(debt)) {
                    settle(debt);
                    much += sum[debt];
                }
            }
            return much;
        }

        private boolean owesStill(int person, int debt) {
            return plan.debtor[debt] == person && !paid[debt];
        }

        private int costOfAll(int person) {
            int cost = 0;
            for (int debt = 0; debt < plan.debts; debt++) {
                if (owesStill(person, debt)) {
                    cost += costOf(debt);
                }
            }
            return cost;
        }

        /** Who has enough for all that he owes pays it, wherever he is; then who owes nothing, as bits. */
        private int payWhoCan() {
            // Each round in which anything happens frees somebody for good.
            for (int round = 0; round < plan.people; round++) {
                for (int person = 0; person < plan.people; person++) {
                    if (purse[person] >= costOfAll(person)) {
                        settleAll(person);
                    }
                }
            }
            int bits = 0;
            for (int person = 0; person < plan.people; person++) {
                if (costOfAll(person) == 0) {
                    bits |= 1 << person;
                }
            }
            return bits;
        }

        private void settleAll(int person) {
            for (int debt = 0; debt < plan.debts; debt++) {
                if (owesStill(person, debt)) {
                    settle(debt);
                }
            }
        }

        private int keyBits(int person) {
            int bits = 0;
            for (int key = 0; key < KEYS; key++) {
                if (holder[key] == person) {
                    bits |= 1 << key;
                }
            }
            return bits;
        }

        private int doorBits(int person) {
            int bits = 0;
            for (int door = 0; door < plan.doors; door++) {
                if (mayGo(person, door)) {
                    bits |= 1 << door;
                }
            }
            return bits;
        }

        private int payableBits(int person) {
            int bits = 0;
            for (int debt = 0; debt < plan.debts; debt++) {
                if (plan.debtor[debt] == person && mayPay(debt)) {
                    bits |= 1 << debt;
                }
            }
            return bits;
        }

        private int standing(int person) {
            int worth = STANDING_ZERO + purse[person];
            for (int debt = 0; debt < plan.debts; debt++) {
                if (paid[debt]) {
                    continue;
                }
                if (plan.creditor[debt] == person) {
                    worth += sum[debt];
                } else if (plan.debtor[debt] == person) {
                    worth -= sum[debt];
                }
            }
            return worth;
        }

        /** Purses that fit all that is seen of him, by what those debts cost now. */
        private int purseBits(int person) {
            int bits = (1 << PURSES_SEEN) - 1;
            for (int at = 0; at < seen && at < MOST_SEEN; at++) {
                int debt = seenDebt[at];
                if (plan.debtor[debt] == person) {
                    bits &= seenCould[at] ? ~tooPoorBits(debt) : tooPoorBits(debt);
                }
            }
            return bits;
        }

        private int tooPoorBits(int debt) {
            return (1 << costOf(debt)) - 1;
        }

        private int debtToPress(int person) {
            int bits = purseBits(person);
            int best = NONE;
            int fewest = PURSES_SEEN + 1;
            for (int debt = 0; debt < plan.debts && bits != 0; debt++) {
                if (plan.debtor[debt] != person) {
                    continue;
                }
                int tooPoor = Integer.bitCount(bits & tooPoorBits(debt));
                int left = Math.max(tooPoor, Integer.bitCount(bits) - tooPoor);
                if (left < fewest) {
                    fewest = left;
                    best = debt;
                }
            }
            return best;
        }

        private int paidDebts() {
            int many = 0;
            for (int debt = 0; debt < plan.debts; debt++) {
                many += paid[debt] ? 1 : 0;
            }
            return many;
        }

        private int sumsNotPaid() {
            int much = 0;
            for (int debt = 0; debt < plan.debts; debt++) {
                much += paid[debt] ? 0 : sum[debt];
            }
            return much;
        }

        private int allPurses() {
            int much = 0;
            for (int person = 0; person < plan.people; person++) {
                much += purse[person];
            }
            return much;
        }
    }

    /** Where one comes who goes the shortest way, or about at random. */
    private static final class Walks {
        // 60 to the 3: a share by 1 to 6 doors is whole, for three hours.
        private static final int WHOLE = 216000;

        private final House plan;
        private final int[] far = new int[MOST_ROOMS];
        private final int[] parts = new int[MOST_ROOMS];
        private final int[] next = new int[MOST_ROOMS];

        private Walks(House plan) {
            this.plan = plan;
        }

        private int wayLength(Affairs affairs, int person, int room) {
            measure(affairs, person, room);
            return far[affairs.room[person]];
        }

        private int wayDoor(Affairs affairs, int person, int room, int place) {
            measure(affairs, person, room);
            int at = affairs.room[person];
            int door = NONE;
            for (int step = 0; step <= place; step++) {
                door = doorNearer(affairs, person, at);
                if (door == NONE) {
                    return NONE;
                }
                at = plan.roomBeyond(door, at);
            }
            return door;
        }

        /** How many doors each room is from the target for him. */
        private void measure(Affairs affairs, int person, int target) {
            for (int room = 0; room < MOST_ROOMS; room++) {
                far[room] = NONE;
            }
            far[target] = 0;
            for (int round = 1; round < plan.rooms; round++) {
                for (int door = 0; door < plan.doors; door++) {
                    if (affairs.mayPass(person, door)) {
                        shorten(plan.oneEnd[door], plan.otherEnd[door]);
                        shorten(plan.otherEnd[door], plan.oneEnd[door]);
                    }
                }
            }
        }

        private void shorten(int from, int to) {
            if (far[from] != NONE && (far[to] == NONE || far[to] > far[from] + 1)) {
                far[to] = far[from] + 1;
            }
        }

        private int doorNearer(Affairs affairs, int person, int at) {
            if (far[at] <= 0) {
                return NONE;
            }
            for (int door = 0; door < plan.doors; door++) {
                if (plan.doorEndsAt(door, at) && affairs.mayPass(person, door)
                        && far[plan.roomBeyond(door, at)] == far[at] - 1) {
                    return door;
                }
            }
            return NONE;
        }

        /** How likely he is in the target now or behind any hour, in parts of WHOLE. */
        private int metParts(Affairs affairs, int person, int target, int hours) {
            int start = affairs.room[person];
            if (start == target) {
                return WHOLE;
            }
            for (int room = 0; room < MOST_ROOMS; room++) {
                parts[room] = 0;
            }
            parts[start] = WHOLE;
            int found = 0;
            for (int hour = 0; hour < hours; hour++) {
                spread(affairs, person);
                // Who has met the other one is counted once and goes no further.
                found += parts[target];
                parts[target] = 0;
            }
            return found;
        }

        private void spread(Affairs affairs, int person) {
            for (int room = 0; room < MOST_ROOMS; room++) {
                next[room] = 0;
            }
            for (int room = 0; room < plan.rooms; room++) {
                if (parts[room] > 0) {
                    spreadFrom(affairs, person, room);
                }
            }
            for (int room = 0; room < MOST_ROOMS; room++) {
                parts[room] = next[room];
            }
        }

        private void spreadFrom(Affairs affairs, int person, int room) {
            int ways = 0;
            for (int door = 0; door < plan.doors; door++) {
                if (plan.doorEndsAt(door, room) && affairs.mayPass(person, door)) {
                    ways++;
                }
            }
            if (ways == 0) {
                next[room] += parts[room];
                return;
            }
            for (int door = 0; door < plan.doors; door++) {
                if (plan.doorEndsAt(door, room) && affairs.mayPass(person, door)) {
                    next[plan.roomBeyond(door, room)] += parts[room] / ways;
                }
            }
        }
    }

    /** The night in which one pays most, found by trying all. */
    private static final class Nights {
        private final House plan;
        private final Affairs[] levels = new Affairs[MOST_NIGHT + 1];
        private final int[] path = new int[MOST_NIGHT];
        private final int[] best = new int[MOST_NIGHT];
        private int most;

        private Nights(House plan) {
            this.plan = plan;
            for (int depth = 0; depth <= MOST_NIGHT; depth++) {
                levels[depth] = new Affairs(plan);
            }
        }

        private void search(Affairs from, int person, int doors) {
            most = NONE;
            levels[0].takeOver(from);
            goOn(this, person, doors, 0, 0);
        }

        private int doorAt(int place, int doors) {
            return most == NONE || place >= doors || place >= MOST_NIGHT ? NONE : best[place];
        }

        private static void goOn(Nights nights, int person, int doors, int depth, int before) {
            if (depth > MOST_NIGHT) {
                return;
            }
            Affairs here = nights.levels[depth];
            int much = before + here.payAll(person, true);
            if (depth >= doors || depth >= MOST_NIGHT) {
                nights.keepIfMore(much);
                return;
            }
            Affairs behind = nights.levels[depth + 1];
            for (int door = 0; door < nights.plan.doors; door++) {
                if (here.mayGo(person, door)) {
                    nights.path[depth] = door;
                    behind.takeOver(here);
                    behind.goThrough(person, door);
                    goOn(nights, person, doors, depth + 1, much);
                }
            }
        }

        private void keepIfMore(int much) {
            if (much > most) {
                most = much;
                for (int at = 0; at < MOST_NIGHT; at++) {
                    best[at] = path[at];
                }
            }
        }
    }

    /** By how much the debts of a room cancel each other, found by trying all. */
    private static final class Rings {
        private final House plan;
        private final int[] limit = new int[MOST_DEBTS];
        private final int[] less = new int[MOST_DEBTS];
        private final int[] best = new int[MOST_DEBTS];
        private final int[] lastDebt = new int[MOST_PEOPLE];
        private final int[] uneven = new int[MOST_PEOPLE];
        private int most;

        private Rings(House plan) {
            this.plan = plan;
        }

        private void search(Affairs affairs, int room) {
            for (int person = 0; person < MOST_PEOPLE; person++) {
                lastDebt[person] = NONE;
                uneven[person] = 0;
            }
            for (int debt = 0; debt < MOST_DEBTS; debt++) {
                less[debt] = NONE;
                limit[debt] = NONE;
                if (debt < plan.debts && plan.debtRoom[debt] == room && !affairs.paid[debt]) {
                    limit[debt] = affairs.sum[debt];
                    lastDebt[plan.debtor[debt]] = debt;
                    lastDebt[plan.creditor[debt]] = debt;
                }
            }
            most = NONE;
            lessen(this, 0, 0);
        }

        private static void lessen(Rings rings, int debt, int before) {
            if (debt >= MOST_DEBTS) {
                rings.keepIfMore(before);
                return;
            }
            if (rings.limit[debt] == NONE) {
                lessen(rings, debt + 1, before);
                return;
            }
            int who = rings.plan.debtor[debt];
            int whom = rings.plan.creditor[debt];
            int least = 0;
            int largest = rings.limit[debt];
            // One for whom this is the last debt here has to come out even by it.
            if (rings.lastDebt[who] == debt) {
                least = Math.max(least, -rings.uneven[who]);
                largest = Math.min(largest, -rings.uneven[who]);
            }
            if (rings.lastDebt[whom] == debt) {
                least = Math.max(least, rings.uneven[whom]);
                largest = Math.min(largest, rings.uneven[whom]);
            }
            for (int by = least; by <= largest; by++) {
                rings.less[debt] = by;
                rings.uneven[who] += by;
                rings.uneven[whom] -= by;
                lessen(rings, debt + 1, before + by);
                rings.uneven[who] -= by;
                rings.uneven[whom] += by;
            }
        }

        private void keepIfMore(int much) {
            if (much > most) {
                most = much;
                for (int debt = 0; debt < MOST_DEBTS; debt++) {
                    best[debt] = less[debt];
                }
            }
        }
    }
}
