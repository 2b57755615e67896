import java.util.ArrayList;
import java.util.Arrays;
import java.util.List;
import java.util.Map;
import java.util.TreeMap;

/**
 * Every call with numbers on both sides of every bound, in scenes of several kinds: it is
 * refused when the document says so, with the first reason that it tells, and a refused call
 * changes nothing. What is due is written down here from the document alone: the reasons of
 * each call in their order, and of each scene by hand who may do what.
 */
public final class RefusalTest {
    private static final int UNKNOWN = -101, OUTSIDE = -102, STATE = -103, FULL = -104;
    private static final int NO_REFUSAL = 0;
    private static final int LEAST = Integer.MIN_VALUE, MOST = Integer.MAX_VALUE;

    /** So many calls on one object, with those that make the scene, stay below the document's 512. */
    private static final int CALLS_ON_ONE = 200;
    private static final String LARGE = "6;01o,12a,23b,34o,45o,50o;p00,b11,h22,d33;0101,1202,2303,3004";
    private static final String TOGETHER = "2;01a,01b;p50,r90,b00,h30;0105,1209,2001,3013";
    private static final int[] MANY = {LEAST, -101, -2, -1, 0, 1, 2, 3, 4, 5, 6, 7, 8, 9, 10, 11, 12, 13, 14, 15,
        59, 60, 61, 126, 127, 256, 308, 998, 999, 1000, MOST};
    private static final int[] FEW = {LEAST, -1, 0, 1, 2, 3, 4, 5, 6, 9, 10, 13, 14, 15, 60, 61, MOST};
    private static final int[] FEWEST = {LEAST, -1, 0, 1, 2, 3, 4, 5, MOST};

    /** The calls that only tell; refused or not, they change nothing. */
    private static final String[] TELL = {"fault", "person", "as", "door", "debt", "way", "night", "cancel", "sound",
        "met", "winters", "count", "digest"};
    /** The calls that change something, unless they are refused. */
    private static final String[] CHANGE = {"letter", "house", "go", "give", "pay", "earn", "owe", "see", "image",
        "restore"};

    private static int checks = 0;
    private static int wrong = 0;
    private static final Map<String, Integer> refused = new TreeMap<>();

    public static void main(String[] args) {
        for (Scene scene : scenes()) {
            for (String call : TELL) {
                tellsAsDue(scene, call);
            }
            for (String call : CHANGE) {
                changesAsDue(scene, call);
            }
        }
        everyReasonWasSeen();
        System.out.println(checks + " checks, " + wrong + " wrong");
        if (wrong != 0) {
            System.exit(1);
        }
    }

    private static void holds(boolean so, String what) {
        checks++;
        if (!so) {
            wrong++;
            if (wrong <= 40) {
                System.out.println(what);
            }
        }
    }

    // ---- the scenes

    /** How an object comes to stand there, and by hand what is so then. */
    private static final class Scene {
        private final String name;
        private final String first, second;
        private int rooms, doors, people, debts;
        private int letters, seen;
        private boolean isKept, pageIsHouse, isBusy;
        private int[] mayGo = {0, 0, 0, 0};
        private int[] mayHave = {0, 0};
        private int mayBePaid;
        private final int[] purse = {0, 0, 0, 0};

        private Scene(String name, String first, String second) {
            this.name = name;
            this.first = first;
            this.second = second;
        }

        private Scene has(int rooms, int doors, int people, int debts) {
            this.rooms = rooms;
            this.doors = doors;
            this.people = people;
            this.debts = debts;
            return this;
        }

        private Scene purses(int... purses) {
            System.arraycopy(purses, 0, purse, 0, purses.length);
            return this;
        }

        private Scene may(int[] go, int[] have, int bePaid) {
            mayGo = go;
            mayHave = have;
            mayBePaid = bePaid;
            return this;
        }

        /** The first text is read if it is a house; then all is done that the scene tells; the second is left. */
        private DebtRooms made() {
            DebtRooms x = new DebtRooms();
            write(x, first);
            if (people > 0) {
                x.house();
            }
            if (isKept) {
                x.image();
            }
            if (isBusy) {
                x.pay(0);
                x.give(0, 2);
                x.go(2, 0);
            }
            for (int person = 0; person < people; person++) {
                for (int has = x.person(person, 1); has >= 0 && has < purse[person]; has = x.person(person, 1)) {
                    x.earn(person, Math.min(9, purse[person] - has));
                }
            }
            for (int at = 0; at < seen; at++) {
                x.see(at % Math.max(1, debts), at % 2 == 0);
            }
            write(x, second);
            return x;
        }

        private static void write(DebtRooms x, String text) {
            for (int at = 0; at < text.length(); at++) {
                x.letter(text.charAt(at));
            }
        }
    }

    private static List<Scene> scenes() {
        List<Scene> scenes = new ArrayList<>();
        scenes.add(new Scene("a new object", "", ""));
        Scene fullPage = new Scene("no house, a full page", LARGE, ",,,");
        fullPage.letters = 64;
        scenes.add(fullPage);
        // One letter more is taken here, whichever it is.
        Scene nearlyFull = new Scene("no house, a page of 63", LARGE, ",,");
        nearlyFull.letters = 63;
        scenes.add(nearlyFull);
        Scene small = new Scene("the least house", "2;01o;p00,p11;0101", "").has(2, 1, 2, 1).purses(0, 1);
        small.may(new int[] {1, 1, 0, 0}, new int[] {0, 0}, 0);
        scenes.add(small);
        Scene large = new Scene("the largest house, all full", LARGE, LARGE + "~~~").has(6, 6, 4, 4);
        large.purses(99, 98, 90, 91).may(new int[] {33, 3, 0, 0}, new int[] {0, 0}, 8);
        large.letters = 64;
        large.seen = 6;
        large.isKept = true;
        scenes.add(large);
        Scene together = new Scene("all in one room", TOGETHER, "2;01o;p00,p00;0101").has(2, 2, 4, 4);
        together.purses(5, 9, 0, 3).may(new int[] {1, 0, 3, 0}, new int[] {14, 13}, 1);
        together.letters = 18;
        together.pageIsHouse = true;
        together.seen = 5;
        scenes.add(together);
        Scene kept = new Scene("all in one room, with an image", TOGETHER, "2;01o;p00,p00;0100").has(2, 2, 4, 4);
        // The rich one has 10 now, the blind one 1.
        kept.purses(5, 10, 1, 3).may(new int[] {1, 0, 3, 0}, new int[] {14, 13}, 7);
        kept.letters = 18;
        kept.seen = 1;
        kept.isKept = true;
        scenes.add(kept);
        Scene busy = new Scene("a debt is paid, a key given, one has gone", TOGETHER, "7").has(2, 2, 4, 4);
        // The blind one is alone in room 1 with key 0 and has nothing; the rich one could pay.
        busy.purses(0, 99, 0, 9).may(new int[] {0, 0, 3, 0}, new int[] {0, 9}, 2);
        busy.letters = 1;
        busy.seen = 4;
        busy.isKept = true;
        busy.isBusy = true;
        scenes.add(busy);
        return scenes;
    }

    // ---- what is due, by the document

    private static boolean isIn(int number, int least, int most) {
        return number >= least && number <= most;
    }

    /** The first reason that holds, of pairs as the document tells them for a call. */
    private static int firstOf(Object... reasons) {
        for (int at = 0; at < reasons.length; at += 2) {
            if ((Boolean) reasons[at + 1]) {
                return (Integer) reasons[at];
            }
        }
        return NO_REFUSAL;
    }

    private static int dueOf(Scene s, String call, int[] a) {
        boolean noHouse = s.people == 0;
        switch (call) {
            case "letter": return firstOf(OUTSIDE, !isIn(a[0], 1, 126), FULL, s.letters + 1 > 64);
            case "house": return firstOf(STATE, !s.pageIsHouse);
            case "person": return firstOf(UNKNOWN, !isIn(a[0], 0, s.people - 1), OUTSIDE, !isIn(a[1], 0, 8));
            case "as": return firstOf(UNKNOWN, !isIn(a[0], 0, s.people - 1), OUTSIDE, !isIn(a[1], 0, 4));
            case "door": return firstOf(UNKNOWN, !isIn(a[0], 0, s.doors - 1), OUTSIDE, !isIn(a[1], 0, 2));
            case "debt": return firstOf(UNKNOWN, !isIn(a[0], 0, s.debts - 1), OUTSIDE, !isIn(a[1], 0, 5));
            case "go": return firstOf(UNKNOWN, !isIn(a[0], 0, s.people - 1), UNKNOWN, !isIn(a[1], 0, s.doors - 1),
                STATE, !isIn(a[0], 0, 3) || !bit(s.mayGo[a[0]], a[1]));
            case "give": return firstOf(UNKNOWN, !isIn(a[0], 0, 1), UNKNOWN, !isIn(a[1], 0, s.people - 1),
                STATE, !isIn(a[0], 0, 1) || !bit(s.mayHave[a[0]], a[1]));
            case "pay": return firstOf(UNKNOWN, !isIn(a[0], 0, s.debts - 1), STATE, !bit(s.mayBePaid, a[0]));
            case "earn": return firstOf(UNKNOWN, !isIn(a[0], 0, s.people - 1), OUTSIDE, !isIn(a[1], 1, 9),
                FULL, isIn(a[0], 0, 3) && (long) s.purse[a[0]] + a[1] > 99);
            case "owe": return firstOf(UNKNOWN, !isIn(a[0], 0, s.debts - 1), OUTSIDE, !isIn(a[1], 1, 9));
            case "way": return firstOf(UNKNOWN, !isIn(a[0], 0, s.people - 1), UNKNOWN, !isIn(a[1], 0, s.rooms - 1),
                OUTSIDE, a[2] != 0 && !isIn(a[2], 10, 14));
            case "night": return firstOf(UNKNOWN, !isIn(a[0], 0, s.people - 1), OUTSIDE, !isIn(a[1], 0, 4),
                OUTSIDE, a[2] != 0 && !isIn(a[2], 10, 13));
            case "cancel": return firstOf(UNKNOWN, !isIn(a[0], 0, s.rooms - 1),
                OUTSIDE, a[1] != 0 && !isIn(a[1], 10, 13));
            case "sound": return firstOf(STATE, noHouse);
            case "met": return firstOf(UNKNOWN, !isIn(a[0], 0, s.people - 1), UNKNOWN, !isIn(a[1], 0, s.people - 1),
                UNKNOWN, a[0] == a[1], OUTSIDE, !isIn(a[2], 1, 3), OUTSIDE, !isIn(a[3], 0, 1));
            case "see": return firstOf(UNKNOWN, !isIn(a[0], 0, s.debts - 1), FULL, s.seen + 1 > 6);
            case "winters": return firstOf(OUTSIDE, !isIn(a[0], 1, 60), OUTSIDE, a[1] < 0,
                OUTSIDE, !isIn(a[2], 0, 2), STATE, noHouse);
            case "image": return firstOf(STATE, noHouse);
            case "restore": return firstOf(STATE, !s.isKept);
            case "count": return firstOf(OUTSIDE, !isIn(a[0], 0, 12));
            default: return NO_REFUSAL;
        }
    }

    private static boolean bit(int bits, int number) {
        return isIn(number, 0, 31) && (bits >> number & 1) == 1;
    }

    // ---- the calls

    private static long answer(DebtRooms x, String call, int[] a) {
        switch (call) {
            case "letter": return x.letter(a[0]);
            case "fault": return x.fault();
            case "house": return x.house();
            case "person": return x.person(a[0], a[1]);
            case "as": return x.as(a[0], a[1]);
            case "door": return x.door(a[0], a[1]);
            case "debt": return x.debt(a[0], a[1]);
            case "go": return x.go(a[0], a[1]);
            case "give": return x.give(a[0], a[1]);
            case "pay": return x.pay(a[0]);
            case "earn": return x.earn(a[0], a[1]);
            case "owe": return x.owe(a[0], a[1]);
            case "way": return x.way(a[0], a[1], a[2]);
            case "night": return x.night(a[0], a[1], a[2]);
            case "cancel": return x.cancel(a[0], a[1]);
            case "sound": return x.sound();
            case "met": return x.met(a[0], a[1], a[2], a[3]);
            case "see": return x.see(a[0], a[1] != 0);
            case "winters": return x.winters(a[0], a[1], a[2]);
            case "image": return x.image();
            case "restore": return x.restore();
            case "count": return x.count(a[0]);
            default: return x.digest();
        }
    }

    private static List<int[]> argumentsOf(String call) {
        switch (call) {
            case "letter": case "pay": case "count": return all(MANY);
            case "person": case "as": case "door": case "debt": case "go": case "give": case "earn": case "owe":
            case "cancel": return all(MANY, MANY);
            case "see": return all(MANY, new int[] {0, 1});
            case "way": case "night": case "winters": return all(FEW, FEW, FEW);
            case "met": return all(FEWEST, FEWEST, FEWEST, FEWEST);
            default: return all();
        }
    }

    private static List<int[]> all(int[]... choices) {
        List<int[]> rows = new ArrayList<>();
        rows.add(new int[0]);
        for (int[] choice : choices) {
            List<int[]> longer = new ArrayList<>();
            for (int[] row : rows) {
                for (int number : choice) {
                    int[] next = Arrays.copyOf(row, row.length + 1);
                    next[row.length] = number;
                    longer.add(next);
                }
            }
            rows = longer;
        }
        return rows;
    }

    private static boolean isRefusal(String call, long got) {
        return !call.equals("digest") && got <= UNKNOWN && got >= FULL;
    }

    private static boolean isAsDue(Scene scene, String call, int[] a, long got) {
        int want = dueOf(scene, call, a);
        if (want != NO_REFUSAL) {
            refused.merge(call + " " + want, 1, Integer::sum);
        }
        boolean so = want == NO_REFUSAL ? !isRefusal(call, got) && (got >= -1 || call.equals("digest")) : got == want;
        holds(so, scene.name + ": " + told(call, a) + " answered " + got + ", due is "
            + (want == NO_REFUSAL ? "no refusal" : "" + want));
        return want != NO_REFUSAL;
    }

    private static String told(String call, int[] a) {
        return call + Arrays.toString(a);
    }

    private static void tellsAsDue(Scene scene, String call) {
        DebtRooms twin = scene.made();
        String before = allOf(twin);
        List<int[]> rows = argumentsOf(call);
        for (int from = 0; from < rows.size(); from += CALLS_ON_ONE) {
            DebtRooms x = scene.made();
            for (int at = from; at < rows.size() && at < from + CALLS_ON_ONE; at++) {
                isAsDue(scene, call, rows.get(at), answer(x, call, rows.get(at)));
            }
            holds(allOf(x).equals(before), scene.name + ": " + call + "() has changed something");
        }
    }

    private static void changesAsDue(Scene scene, String call) {
        String before = allOf(scene.made());
        for (int[] a : argumentsOf(call)) {
            DebtRooms x = scene.made();
            long got = answer(x, call, a);
            if (isAsDue(scene, call, a, got)) {
                holds(allOf(x).equals(before), scene.name + ": " + told(call, a) + " was refused, but has changed something");
            }
        }
    }

    /** All that an object holds: what is now, what is seen under other sums, the image, the page. */
    private static String allOf(DebtRooms x) {
        StringBuilder all = new StringBuilder().append(x.digest());
        all.append(' ').append(x.fault());
        all.append(' ').append(seenUnderOtherSums(x));
        all.append(' ').append(x.restore()).append(' ').append(x.digest());
        all.append(' ').append(x.house()).append(' ').append(x.restore()).append(' ').append(x.digest());
        return all.toString();
    }

    /** PURSES alone may hide what is seen; with each debt made dear by turns it comes out. */
    private static String seenUnderOtherSums(DebtRooms x) {
        StringBuilder all = new StringBuilder();
        for (int debt = 0; debt < x.count(3); debt++) {
            int owes = x.debt(debt, 0);
            int paid = x.debt(debt, 5);
            int was = x.owe(debt, 9);
            all.append(x.person(owes, 7)).append(',');
            x.owe(debt, 1);
            all.append(x.person(owes, 7)).append(',').append(was).append(paid).append(' ');
            x.owe(debt, was);
        }
        return all.toString();
    }

    /** A reason that no scene brings about would be tested by nothing. FULL of go takes more than 512 calls. */
    private static void everyReasonWasSeen() {
        String[] reasons = {"letter -102", "letter -104", "house -103", "person -101", "person -102", "as -101", "as -102",
            "door -101", "door -102", "debt -101", "debt -102", "go -101", "go -103", "give -101", "give -103",
            "pay -101", "pay -103", "earn -101", "earn -102", "earn -104", "owe -101", "owe -102", "way -101",
            "way -102", "night -101", "night -102", "cancel -101", "cancel -102", "sound -103", "met -101", "met -102",
            "see -101", "see -104", "winters -102", "winters -103", "image -103", "restore -103", "count -102"};
        for (String reason : reasons) {
            holds(refused.containsKey(reason), "no scene brings about " + reason);
        }
        holds(refused.size() == reasons.length, "a reason that is not told: " + refused.keySet());
    }
}
