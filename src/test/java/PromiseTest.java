/** Each promise by hand: ordinary inputs, the edges that the document names, wrong inputs. */
public final class PromiseTest {
    private static final int NONE = -1, UNKNOWN = -101, OUTSIDE = -102, STATE = -103, FULL = -104;
    private static final int LEAST = Integer.MIN_VALUE, MOST = Integer.MAX_VALUE;

    /** A ring of four rooms; a plain, a blind, an heir, a rich one. */
    private static final String RING = "4;01o,12a,23b,03o;p50,b71,h92,r33;0104,1213,2022,3125";

    private static int wrong = 0;
    private static int checks = 0;

    private static void due(int promise, String what, long got, long want) {
        checks++;
        if (got != want) {
            wrong++;
            System.out.println("promise " + promise + ": " + what + " answered " + got + ", due is " + want);
        }
    }

    private static DebtRooms written(String text) {
        DebtRooms x = new DebtRooms();
        write(x, text);
        return x;
    }

    private static void write(DebtRooms x, String text) {
        for (int at = 0; at < text.length(); at++) {
            x.letter(text.charAt(at));
        }
    }

    private static DebtRooms built(String text) {
        DebtRooms x = written(text);
        if (x.house() < 2) {
            wrong++;
            System.out.println("no house: " + text);
        }
        return x;
    }

    public static void main(String[] args) {
        aNewObject();
        letter();
        blank();
        fault();
        house();
        person();
        as();
        door();
        debt();
        go();
        give();
        pay();
        earn();
        owe();
        way();
        night();
        cancel();
        sound();
        met();
        seeAndPress();
        forget();
        winters();
        image();
        restore();
        count();
        digest();
        System.out.println(checks + " checks, " + wrong + " wrong");
        if (wrong != 0) {
            System.exit(1);
        }
    }

    private static void aNewObject() {
        DebtRooms x = new DebtRooms();
        int[] empty = {0, 0, 0, 0, 0, 0, 0, 0, NONE, NONE, 0, 0, 0};
        for (int what = 0; what < empty.length; what++) {
            due(1, "count(" + what + ")", x.count(what), empty[what]);
        }
        due(1, "person(0, 0)", x.person(0, 0), UNKNOWN);
        due(1, "door(0, 0)", x.door(0, 0), UNKNOWN);
        due(1, "debt(0, 0)", x.debt(0, 0), UNKNOWN);
        due(1, "cancel(0, 0)", x.cancel(0, 0), UNKNOWN);
        due(1, "house()", x.house(), STATE);
        eachHasItsOwn();
    }

    /** What is done to one object is not done to another, whichever was made first. */
    private static void eachHasItsOwn() {
        String text = "2;01o;d90,p00;0105";
        DebtRooms one = built(text);
        DebtRooms other = built(text);
        long before = other.digest();
        one.letter('2');
        one.go(1, 0);
        one.earn(1, 3);
        one.pay(0);
        one.see(0, true);
        due(1, "image() of one", one.image(), 1);
        due(1, "digest() of the other", other.digest(), before);
        due(1, "restore() of the other", other.restore(), STATE);
        due(1, "image() of the other", other.image(), 0);
        one.go(1, 0);
        due(1, "restore() of one", one.restore(), 1);
        due(1, "his purse in one", one.person(1, 1), 8);
        due(1, "restore() of the other", other.restore(), 0);
        due(1, "digest() of the other", other.digest(), before);
        due(1, "a third has no house", new DebtRooms().count(2), 0);
        due(1, "a third has read none", new DebtRooms().count(12), 0);
    }

    private static void letter() {
        DebtRooms x = new DebtRooms();
        due(2, "letter(0)", x.letter(0), OUTSIDE);
        due(2, "letter(127)", x.letter(127), OUTSIDE);
        due(2, "letter(-1)", x.letter(-1), OUTSIDE);
        due(2, "letter(least)", x.letter(LEAST), OUTSIDE);
        due(2, "letter(most)", x.letter(MOST), OUTSIDE);
        due(2, "letter(1)", x.letter(1), 1);
        due(2, "letter(126)", x.letter(126), 2);
        for (int many = 3; many <= 64; many++) {
            due(2, "letter(52)", x.letter(52), many);
        }
        due(2, "letter(52), the 65th", x.letter(52), FULL);
        due(2, "letter(0), the 65th", x.letter(0), OUTSIDE);
        due(2, "count(11)", x.count(11), 64);
    }

    private static void blank() {
        DebtRooms x = written("4;0");
        due(3, "blank()", x.blank(), 3);
        due(3, "blank() again", x.blank(), 0);
        due(3, "letter(52) behind it", x.letter(52), 1);
        due(3, "fault() behind it", x.fault(), 1);
    }

    private static void faultOf(String text, int want) {
        due(4, "fault() of " + text, written(text).fault(), want);
    }

    private static void fault() {
        faultOf("", 0);
        faultOf("2", 1);
        faultOf("6", 1);
        faultOf("1", 0);
        faultOf("7", 0);
        faultOf("x;", 0);
        faultOf("2,", 1);
        faultOf("2;2", 2);
        faultOf("2;1", 3);
        faultOf("2;11", 3);
        faultOf("2;02", 3);
        faultOf("6;05", 4);
        faultOf("2;01c", 4);
        faultOf("2;01O", 4);
        faultOf("2;01o.", 5);
        faultOf("2;01o,10a,01b,01o,01o,01o", 25);
        faultOf("2;01o,10a,01b,01o,01o,01o,", 25);
        faultOf("2;01o,10a,01b,01o,01o,01o;", 26);
        faultOf("2;01o;x", 6);
        faultOf("2;01o;p90", 9);
        faultOf("2;01o;p9:", 8);
        faultOf("2;01o;p:0", 7);
        faultOf("2;01o;p/0", 7);
        faultOf("2;/1", 2);
        faultOf("2;0/", 3);
        faultOf("2;01o;p9/", 8);
        faultOf("2;01o;p92", 8);
        faultOf("2;01o;p90;", 9);
        faultOf("2;01o;p90,r00;", 14);
        faultOf("2;01o;p90,b00,h00,d00", 21);
        faultOf("2;01o;p90,b00,h00,d00,", 21);
        faultOf("2;01o;p90,r00;2", 14);
        faultOf("2;01o;p90,r00;00", 15);
        faultOf("2;01o;p90,r00;02", 15);
        faultOf("2;01o;p90,r00;012", 16);
        faultOf("2;01o;p90,r00;0110", 17);
        faultOf("2;01o;p90,r00;0111", 18);
        faultOf("2;01o;p90,r00;0111;", 18);
        faultOf("2;01o;p90,r00;0111,1019,0101,0101", 33);
        faultOf("2;01o;p90,r00;0111,1019,0101,0101,", 33);
        faultOf(RING, RING.length());
    }

    private static void house() {
        DebtRooms x = written("2;01o;p90,r00;011");
        due(5, "house() of a beginning", x.house(), STATE);
        due(5, "the page stays", x.count(11), 17);
        x.letter('1');
        due(5, "house()", x.house(), 2);
        due(5, "the page is empty", x.count(11), 0);
        due(5, "how often", x.count(12), 1);
        due(5, "house() of no page", x.house(), STATE);
        due(5, "the house stays", x.count(0), 2);
        x.give(0, 1);
        x.go(0, 0);
        x.see(0, true);
        x.earn(0, 5);
        write(x, RING);
        due(5, "house() another", x.house(), 4);
        due(5, "purse", x.person(0, 1), 5);
        due(5, "gone", x.count(7), 0);
        due(5, "seen", x.count(10), 0);
        due(5, "key 0", x.count(8), 0);
        due(5, "key 1", x.count(9), 1);
        due(5, "how often", x.count(12), 2);
        write(x, "3;01o;p00,p00;0101,");
        due(5, "house() with a ','", x.house(), STATE);
        DebtRooms y = built("2;01o;d90,h10;0111");
        y.pay(0);
        write(y, "2;01o;d90,h10;0111");
        y.house();
        due(5, "nothing is paid in the same one read again", y.debt(0, 5), 0);
        due(5, "the longest", written("6;01o,12a,23b,34o,45o,50o;p00,b11,h22,d33;0101,1202,2303,3004").house(), 4);
    }

    private static void personRow(DebtRooms x, int person, int... wants) {
        for (int what = 0; what < wants.length; what++) {
            due(6, "person(" + person + ", " + what + ")", x.person(person, what), wants[what]);
        }
    }

    private static void person() {
        DebtRooms x = built(RING);
        personRow(x, 0, 0, 5, 0, 1, 9, 0, 103, 1023, 0);
        personRow(x, 1, 2, 7, 1, 2, 3, 0, 113, 1023, 1);
        personRow(x, 2, 3, 9, 2, 0, 0, 4, 110, 1023, 2);
        personRow(x, 3, 1, 3, 3, 0, 0, 0, 98, 1023, 3);
        due(6, "person(4, 0)", x.person(4, 0), UNKNOWN);
        due(6, "person(-1, 0)", x.person(-1, 0), UNKNOWN);
        due(6, "person(4, 9)", x.person(4, 9), UNKNOWN);
        due(6, "person(0, 9)", x.person(0, 9), OUTSIDE);
        due(6, "person(0, -1)", x.person(0, -1), OUTSIDE);
        DebtRooms y = built("2;01a,01b,01o;d90,r90,p00;0119,1018,2011");
        personRow(y, 0, 4, 9, 0, 1, 0, 1, 109, 1023, 0);
        personRow(y, 1, 1, 9, 0, 2, 0, 2, 110, 1023, 1);
        personRow(y, 2, 0, 0, 0, 0, 4, 0, 99, 1023, 2);
        DebtRooms z = built("2;01a,01b,01o;r90,r90;0119,0108");
        personRow(z, 0, 1, 9, 0, 1, 0, 2, 92, 1023, 1);
        personRow(z, 1, 1, 9, 0, 2, 0, 0, 126, 1023, NONE);
    }

    private static void as() {
        DebtRooms x = built("2;01o;p00,r00,b00,h00;0101");
        int[][] isSuch = {{1, 0, 0, 0, 0}, {1, 1, 0, 0, 0}, {1, 0, 1, 0, 0}, {1, 0, 0, 1, 0}, {1, 1, 0, 0, 1}};
        for (int person = 0; person < 4; person++) {
            asRow(x, person, isSuch[person]);
        }
        asRow(built("2;01o;d00,p00;0101"), 0, isSuch[4]);
        due(7, "as(4, 0)", x.as(4, 0), UNKNOWN);
        due(7, "as(-1, 9)", x.as(-1, 9), UNKNOWN);
        due(7, "as(0, 5)", x.as(0, 5), OUTSIDE);
        due(7, "as(0, -1)", x.as(0, -1), OUTSIDE);
        due(7, "as(0, 0), no house", new DebtRooms().as(0, 0), UNKNOWN);
    }

    private static void asRow(DebtRooms x, int person, int[] isSuch) {
        for (int kind = 0; kind < 5; kind++) {
            due(7, "as(" + person + ", " + kind + ")", x.as(person, kind), isSuch[kind] == 1 ? person : NONE);
        }
    }

    private static void door() {
        DebtRooms x = built("4;01o,21a,32b;p00,p00;0101");
        int[][] wants = {{0, 1, NONE}, {2, 1, 0}, {3, 2, 1}};
        for (int door = 0; door < 3; door++) {
            for (int what = 0; what < 3; what++) {
                due(8, "door(" + door + ", " + what + ")", x.door(door, what), wants[door][what]);
            }
        }
        due(8, "door(3, 0)", x.door(3, 0), UNKNOWN);
        due(8, "door(-1, 3)", x.door(-1, 3), UNKNOWN);
        due(8, "door(0, 3)", x.door(0, 3), OUTSIDE);
        due(8, "door(0, -1)", x.door(0, -1), OUTSIDE);
    }

    private static void debt() {
        DebtRooms x = built("3;01o;r90,d90,p00;0129,1207,2013");
        int[][] wants = {{0, 1, 2, 9, 10, 0}, {1, 2, 0, 7, 7, 0}, {2, 0, 1, 3, 3, 0}};
        for (int debt = 0; debt < 3; debt++) {
            for (int what = 0; what < 6; what++) {
                due(9, "debt(" + debt + ", " + what + ")", x.debt(debt, what), wants[debt][what]);
            }
        }
        x.pay(1);
        due(9, "debt(1, 5), paid", x.debt(1, 5), 1);
        due(9, "debt(1, 3), paid", x.debt(1, 3), 7);
        due(9, "debt(3, 0)", x.debt(3, 0), UNKNOWN);
        due(9, "debt(-1, 6)", x.debt(-1, 6), UNKNOWN);
        due(9, "debt(0, 6)", x.debt(0, 6), OUTSIDE);
        due(9, "debt(0, -1)", x.debt(0, -1), OUTSIDE);
    }

    private static void go() {
        DebtRooms x = built("3;01a,01b,12o,20o;p00,p00,b00,r00;0101");
        due(10, "go(0, 1), the other's key", x.go(0, 1), STATE);
        due(10, "go(0, 2), not here", x.go(0, 2), STATE);
        due(10, "go(0, 0), his key", x.go(0, 0), 1);
        due(10, "go(1, 0), the other's key", x.go(1, 0), STATE);
        due(10, "go(1, 1), his key", x.go(1, 1), 1);
        due(10, "go(1, 2)", x.go(1, 2), 2);
        due(10, "go(2, 0), blind", x.go(2, 0), 1);
        due(10, "go(2, 1), blind, back", x.go(2, 1), 0);
        due(10, "go(2, 2), blind, not here", x.go(2, 2), STATE);
        due(10, "go(3, 3), rich", x.go(3, 3), STATE);
        due(10, "count(7)", x.count(7), 5);
        due(10, "go(4, 0)", x.go(4, 0), UNKNOWN);
        due(10, "go(0, 4)", x.go(0, 4), UNKNOWN);
        due(10, "go(-1, -1)", x.go(-1, -1), UNKNOWN);
        due(10, "go(least, most)", x.go(LEAST, MOST), UNKNOWN);
        DebtRooms y = built("2;01o,01b;d00,p00;0101");
        due(10, "go(0, 0), a duke", y.go(0, 0), STATE);
        // More than the document's 512 calls, whose answers are free: held to all the same.
        for (int many = 1; many <= 999; many++) {
            y.go(1, 0);
        }
        due(10, "go(1, 0), the 1000th", y.go(1, 0), FULL);
        due(10, "go(0, 0), behind the 999th", y.go(0, 0), STATE);
        due(10, "count(7)", y.count(7), 999);
    }

    private static void give() {
        DebtRooms x = built("2;01a;p00,p00,p01;0101");
        due(11, "give(0, 0), himself", x.give(0, 0), STATE);
        due(11, "give(0, 2), elsewhere", x.give(0, 2), STATE);
        due(11, "give(0, 1)", x.give(0, 1), 0);
        due(11, "count(8)", x.count(8), 1);
        due(11, "person(1, 3)", x.person(1, 3), 3);
        due(11, "person(0, 3)", x.person(0, 3), 0);
        due(11, "go(0, 0)", x.go(0, 0), STATE);
        due(11, "go(1, 0)", x.go(1, 0), 1);
        due(11, "give(0, 2)", x.give(0, 2), 1);
        due(11, "give(2, 0)", x.give(2, 0), UNKNOWN);
        due(11, "give(-1, 0)", x.give(-1, 0), UNKNOWN);
        due(11, "give(0, 3)", x.give(0, 3), UNKNOWN);
        due(11, "give(0, -1)", x.give(0, -1), UNKNOWN);
        due(11, "give(0, 0), no house", new DebtRooms().give(0, 0), UNKNOWN);
        DebtRooms y = built("2;01a;r00,d00;0101");
        due(11, "give(1, 0), of a duke to a rich one", y.give(1, 0), 1);
    }

    private static void pay() {
        DebtRooms x = built("2;01o;p50,p30,p91;0105,1012,2013");
        due(12, "pay(2), the other is elsewhere", x.pay(2), STATE);
        due(12, "pay(1), elsewhere", x.pay(1), STATE);
        due(12, "pay(0), just enough", x.pay(0), 0);
        due(12, "pay(0), paid", x.pay(0), STATE);
        due(12, "the other's purse", x.person(1, 1), 8);
        due(12, "count(4)", x.count(4), 1);
        x.go(1, 0);
        due(12, "pay(1), the other is elsewhere", x.pay(1), STATE);
        x.go(0, 0);
        due(12, "pay(1)", x.pay(1), 6);
        due(12, "pay(2)", x.pay(2), 6);
        due(12, "pay(3)", x.pay(3), UNKNOWN);
        due(12, "pay(-1)", x.pay(-1), UNKNOWN);
        due(12, "pay(0), no house", new DebtRooms().pay(0), UNKNOWN);
        DebtRooms y = built("3;01o;h40,r60,d51,b72;0104,1026,2025,3001");
        due(12, "pay(0), an heir", y.pay(0), 0);
        due(12, "pay(1), a rich one pays 1 more", y.pay(1), 3);
        due(12, "what the heir has", y.person(0, 1), 6);
        due(12, "pay(2), a duke pays the sum", y.pay(2), 0);
        due(12, "pay(3), a blind one elsewhere", y.pay(3), STATE);
        DebtRooms z = built("2;01o;h40,r91,p40;0114,1209,2005");
        due(12, "pay(0), an heir elsewhere", z.pay(0), STATE);
        due(12, "pay(1), a rich one lacks 1", z.pay(1), STATE);
        due(12, "pay(2), lacks 1", z.pay(2), STATE);
        z.earn(1, 1);
        due(12, "pay(1), a rich one", z.pay(1), 0);
        DebtRooms full = built("2;01o;d90,p90;0109");
        for (int many = 0; many < 10; many++) {
            full.earn(1, 9);
        }
        full.pay(0);
        due(12, "99 at most", full.person(1, 1), 99);
    }

    private static void earn() {
        DebtRooms x = built("2;01o;p90,p00;0101");
        due(13, "earn(1, 1)", x.earn(1, 1), 1);
        due(13, "earn(0, 0)", x.earn(0, 0), OUTSIDE);
        due(13, "earn(0, 10)", x.earn(0, 10), OUTSIDE);
        due(13, "earn(0, most)", x.earn(0, MOST), OUTSIDE);
        due(13, "earn(2, 0)", x.earn(2, 0), UNKNOWN);
        due(13, "earn(-1, 1)", x.earn(-1, 1), UNKNOWN);
        for (int many = 1; many <= 10; many++) {
            due(13, "earn(0, 9)", x.earn(0, 9), 9 + 9 * many);
        }
        due(13, "earn(0, 1), above 99", x.earn(0, 1), FULL);
        due(13, "earn(0, 10), above 99", x.earn(0, 10), OUTSIDE);
        due(13, "person(0, 1)", x.person(0, 1), 99);
        for (int many = 0; many < 10; many++) {
            x.earn(1, 9);
        }
        due(13, "earn(1, 9), above 99", x.earn(1, 9), FULL);
        due(13, "earn(1, 8), just 99", x.earn(1, 8), 99);
    }

    private static void owe() {
        DebtRooms x = built("2;01o;d90,p00;0105");
        due(14, "owe(0, 9)", x.owe(0, 9), 5);
        due(14, "owe(0, 0)", x.owe(0, 0), OUTSIDE);
        due(14, "owe(0, 10)", x.owe(0, 10), OUTSIDE);
        due(14, "owe(1, 0)", x.owe(1, 0), UNKNOWN);
        due(14, "owe(-1, 1)", x.owe(-1, 1), UNKNOWN);
        due(14, "debt(0, 3)", x.debt(0, 3), 9);
        x.pay(0);
        due(14, "owe(0, 10), paid", x.owe(0, 10), OUTSIDE);
        due(14, "debt(0, 5)", x.debt(0, 5), 1);
        due(14, "owe(0, 9), the same", x.owe(0, 9), 9);
        due(14, "debt(0, 5)", x.debt(0, 5), 0);
        due(14, "person(1, 1)", x.person(1, 1), 9);
        due(14, "owe(0, 1)", x.owe(0, 1), 9);
        due(14, "debt(0, 3)", x.debt(0, 3), 1);
        due(14, "owe(0, 0), no house", new DebtRooms().owe(0, 0), UNKNOWN);
    }

    private static void wayRow(DebtRooms x, int person, int room, int many, int... doors) {
        String call = "way(" + person + ", " + room + ", ";
        due(15, call + "0)", x.way(person, room, 0), many);
        for (int place = 0; place < 5; place++) {
            int want = place < doors.length ? doors[place] : NONE;
            due(15, call + (10 + place) + ")", x.way(person, room, 10 + place), want);
        }
    }

    private static void way() {
        DebtRooms x = built("6;54o,43o,32o,21o,10o;p00,p00,r00,d03;0101");
        wayRow(x, 0, 5, 5, 4, 3, 2, 1, 0);
        wayRow(x, 0, 0, 0);
        wayRow(x, 2, 0, 0);
        wayRow(x, 2, 1, NONE);
        wayRow(x, 3, 3, 0);
        wayRow(x, 3, 2, NONE);
        // Two ways of two doors: by 0 then 3, or by 1 then 2; and a longer one.
        DebtRooms y = built("5;01o,02o,23o,13o,04a,43b;p00,p00,b00;0101");
        wayRow(y, 0, 3, 2, 0, 3);
        wayRow(y, 0, 4, 1, 4);
        wayRow(y, 1, 4, 3, 0, 3, 5);
        wayRow(y, 2, 4, 1, 4);
        // A round of five rooms: the shorter side of it, from either end.
        DebtRooms round = built("5;01o,12o,23o,34o,40o;p00,p02,p03;0101");
        wayRow(round, 0, 2, 2, 0, 1);
        wayRow(round, 0, 3, 2, 4, 3);
        wayRow(round, 1, 0, 2, 1, 0);
        wayRow(round, 2, 0, 2, 3, 4);
        wayRow(round, 2, 1, 2, 2, 1);
        // Alike doors: the first one; a locked first one is passed over.
        DebtRooms z = built("4;01b,01o,01o,12o,12o;p00,p00,h03;0101");
        wayRow(z, 0, 2, 2, 1, 3);
        wayRow(z, 1, 2, 2, 0, 3);
        wayRow(z, 0, 3, NONE);
        wayRow(z, 2, 0, NONE);
        z.give(1, 0);
        wayRow(z, 0, 2, 2, 0, 3);
        due(15, "way(3, 0, 0)", z.way(3, 0, 0), UNKNOWN);
        due(15, "way(-1, 0, 1)", z.way(-1, 0, 1), UNKNOWN);
        due(15, "way(0, 4, 1)", z.way(0, 4, 1), UNKNOWN);
        due(15, "way(0, -1, 0)", z.way(0, -1, 0), UNKNOWN);
        due(15, "way(0, 0, 1)", z.way(0, 0, 1), OUTSIDE);
        due(15, "way(0, 0, 9)", z.way(0, 0, 9), OUTSIDE);
        due(15, "way(0, 0, 15)", z.way(0, 0, 15), OUTSIDE);
        due(15, "way(0, 0, -1)", z.way(0, 0, -1), OUTSIDE);
    }

    private static void nightRow(DebtRooms x, int person, int doors, int much, int... wants) {
        String call = "night(" + person + ", " + doors + ", ";
        due(16, call + "0)", x.night(person, doors, 0), much);
        for (int place = 0; place < 4; place++) {
            int want = place < wants.length ? wants[place] : NONE;
            due(16, call + (10 + place) + ")", x.night(person, doors, 10 + place), want);
        }
    }

    private static void night() {
        // An heir with 9: 3 where he is, 4 in room 1, 6 in room 2.
        DebtRooms x = built("3;01o,02o;h90,p00;0103,0114,0126");
        nightRow(x, 0, 0, 3);
        nightRow(x, 0, 1, 9, 1);
        nightRow(x, 0, 2, 9, 1, 1);
        nightRow(x, 0, 3, 9, 1, 1, 0);
        nightRow(x, 0, 4, 9, 1, 1, 0, 0);
        // With 8 what is left for room 2 is too little: 3 and 4 are most.
        DebtRooms poor = built("3;01o,02o;h80,p00;0103,0114,0126");
        nightRow(poor, 0, 1, 7, 0);
        nightRow(poor, 0, 2, 7, 0, 0);
        // By number: the first takes what the larger second one would need.
        DebtRooms greedy = built("2;01o;p71,p01;0112,0117,0114");
        nightRow(greedy, 0, 0, 6);
        // A first one that is too dear is passed over.
        nightRow(built("2;01o;p31,p01;0117,0113"), 0, 0, 3);
        // Others stay where they are: a plain one must find the other one there.
        DebtRooms plain = built("3;01o,12o;p90,p02;0113,0124,0101");
        nightRow(plain, 0, 1, 0, 0);
        nightRow(plain, 0, 2, 4, 0, 1);
        nightRow(plain, 0, 3, 4, 0, 1, 1);
        // A rich one goes nowhere and pays what is owed in his room, whoever is where.
        DebtRooms rich = built("2;01o;r90,p01;0103,0112");
        nightRow(rich, 0, 0, 3);
        nightRow(rich, 0, 1, NONE);
        nightRow(rich, 0, 4, NONE);
        // Of like ones the first by numbers; nothing is changed by asking.
        nightRow(x, 1, 2, 0, 0, 0);
        nightRow(built("2;01b;p90,p00;0101"), 0, 1, NONE);
        due(16, "nothing is paid", x.count(4), 0);
        due(16, "nobody went", x.person(0, 2), 0);
        // The sums count, not what they cost: a rich one with 10 pays 9.
        DebtRooms rich10 = built("2;01o;r90,p01;0109");
        rich10.earn(0, 1);
        nightRow(rich10, 0, 0, 9);
        due(16, "night(2, 5, 1)", x.night(2, 5, 1), UNKNOWN);
        due(16, "night(-1, 0, 0)", x.night(-1, 0, 0), UNKNOWN);
        due(16, "night(0, 5, 0)", x.night(0, 5, 0), OUTSIDE);
        due(16, "night(0, -1, 0)", x.night(0, -1, 0), OUTSIDE);
        due(16, "night(0, 1, 1)", x.night(0, 1, 1), OUTSIDE);
        due(16, "night(0, 1, 9)", x.night(0, 1, 9), OUTSIDE);
        due(16, "night(0, 1, 14)", x.night(0, 1, 14), OUTSIDE);
    }

    private static void cancelRow(DebtRooms x, int room, int much, int... wants) {
        due(17, "cancel(" + room + ", 0)", x.cancel(room, 0), much);
        for (int debt = 0; debt < 4; debt++) {
            int want = debt < wants.length ? wants[debt] : NONE;
            due(17, "cancel(" + room + ", " + (10 + debt) + ")", x.cancel(room, 10 + debt), want);
        }
    }

    private static void cancel() {
        // A ring of three by the least of them; a fourth debt elsewhere.
        DebtRooms x = built("2;01o;p00,p00,p00;0105,1203,2009,1015");
        cancelRow(x, 0, 9, 3, 3, 3, NONE);
        cancelRow(x, 1, 0, NONE, NONE, NONE, 0);
        x.owe(1, 8);
        cancelRow(x, 0, 15, 5, 5, 5, NONE);
        // Two alike against one: the first by as little as can be.
        cancelRow(built("2;01o;p00,p00;0104,0103,1005"), 0, 10, 2, 3, 5);
        cancelRow(built("2;01o;p00,p00;0109,0109,1009"), 0, 18, 0, 9, 9);
        cancelRow(built("2;01o;p00,p00;0109,1009,0109,1009"), 0, 36, 9, 9, 9, 9);
        // Two rings share a debt: the longer one gives more for it.
        cancelRow(built("2;01o;p00,p00,p00;0104,1004,1204,2004"), 0, 12, 4, 0, 4, 4);
        cancelRow(built("2;01o;p00,p00,p00;0104,1003,1202,2002"), 0, 10, 4, 2, 2, 2);
        // No ring; then one that is paid is none.
        cancelRow(built("2;01o;p00,p00,p00;0104,1204,0204"), 0, 0, 0, 0, 0);
        DebtRooms y = built("2;01o;d90,d90;0104,1003");
        cancelRow(y, 0, 6, 3, 3);
        y.pay(1);
        cancelRow(y, 0, 0, 0, NONE);
        cancelRow(y, 1, 0);
        due(17, "cancel(2, 1)", y.cancel(2, 1), UNKNOWN);
        due(17, "cancel(-1, 0)", y.cancel(-1, 0), UNKNOWN);
        due(17, "cancel(0, 1)", y.cancel(0, 1), OUTSIDE);
        due(17, "cancel(0, 9)", y.cancel(0, 9), OUTSIDE);
        due(17, "cancel(0, 14)", y.cancel(0, 14), OUTSIDE);
        due(17, "cancel(0, -1)", y.cancel(0, -1), OUTSIDE);
    }

    private static void sound() {
        due(18, "sound(), no house", new DebtRooms().sound(), STATE);
        // 2 pays 1, who then pays 0, who then pays 3; wherever they are.
        DebtRooms chain = built("2;01o;p00,p11,p20,p01;2102,1003,0313");
        due(18, "sound() of a chain", chain.sound(), 15);
        due(18, "nothing is paid", chain.count(4), 0);
        // One who lacks 1 stops all behind him; who owes nothing is sound.
        due(18, "sound() of a stopped one", built("2;01o;p00,p01,p20,p01;2102,1003,0313").sound(), 12);
        // All that he owes at once, not one of them.
        due(18, "sound() of all at once", built("2;01o;p30,p00;0103,0101").sound(), 2);
        // A rich one needs 1 more for each, a duke not.
        due(18, "sound() of a rich one", built("2;01o;r50,p00;0103,0101").sound(), 2);
        due(18, "sound() of a richer one", built("2;01o;r60,p00;0103,0101").sound(), 3);
        due(18, "sound() of a duke", built("2;01o;d40,p00;0103,0101").sound(), 3);
        // What the rich one pays more goes nowhere.
        due(18, "sound() behind a rich one", built("2;01o;r40,p00,p00;0103,1204").sound(), 5);
        due(18, "sound() of a ring of nothing", built("2;01o;p00,p00;0101,1001").sound(), 0);
        DebtRooms paid = built("2;01o;p10,p00;0101");
        paid.pay(0);
        due(18, "sound() of a paid one", paid.sound(), 3);
    }

    private static void metRow(DebtRooms x, int person, int other, int hours, int above, int below) {
        String call = "met(" + person + ", " + other + ", " + hours + ", ";
        due(19, call + "0)", x.met(person, other, hours, 0), above);
        due(19, call + "1)", x.met(person, other, hours, 1), below);
    }

    private static void met() {
        // From 0 a third each to 1, 2, 3; from those only back.
        DebtRooms star = built("4;01o,02o,03o;p00,p01,r01,h00;0101");
        metRow(star, 0, 1, 1, 1, 3);
        metRow(star, 0, 1, 2, 1, 3);
        metRow(star, 0, 1, 3, 5, 9);
        metRow(star, 0, 3, 1, 1, 1);
        metRow(star, 1, 0, 1, 1, 1);
        metRow(star, 1, 2, 3, 1, 1);
        metRow(star, 2, 0, 3, 0, 1);
        // Each door as likely, not each room: two of three lead to 1.
        DebtRooms twice = built("3;01o,01o,02o;p00,p01,p00;0101");
        metRow(twice, 0, 1, 1, 2, 3);
        metRow(twice, 0, 1, 3, 8, 9);
        // Only doors that he may: 0 has key 0, not key 1.
        DebtRooms locked = built("3;01a,02b;p00,p01,b00,h02;0101");
        metRow(locked, 0, 1, 1, 1, 1);
        metRow(locked, 2, 1, 1, 1, 2);
        metRow(locked, 2, 1, 3, 3, 4);
        metRow(locked, 0, 3, 3, 0, 1);
        metRow(locked, 3, 0, 3, 0, 1);
        DebtRooms six = built("2;01o,01o,01o,01o,01o,01o;p00,p01;0101");
        metRow(six, 0, 1, 1, 1, 1);
        // Five doors of six at room 0: 1 in 5, then back.
        DebtRooms five = built("6;01o,02o,03o,04o,05o;p00,p05;0101");
        metRow(five, 0, 1, 1, 1, 5);
        metRow(five, 0, 1, 3, 9, 25);
        due(19, "met(0, 0, 1, 0)", six.met(0, 0, 1, 0), UNKNOWN);
        due(19, "met(0, 2, 0, 0)", six.met(0, 2, 0, 0), UNKNOWN);
        due(19, "met(2, 0, 1, 2)", six.met(2, 0, 1, 2), UNKNOWN);
        due(19, "met(-1, 0, 1, 0)", six.met(-1, 0, 1, 0), UNKNOWN);
        due(19, "met(0, 1, 0, 0)", six.met(0, 1, 0, 0), OUTSIDE);
        due(19, "met(0, 1, 4, 0)", six.met(0, 1, 4, 0), OUTSIDE);
        due(19, "met(0, 1, 1, 2)", six.met(0, 1, 1, 2), OUTSIDE);
        due(19, "met(0, 1, 1, -1)", six.met(0, 1, 1, -1), OUTSIDE);
        due(19, "nobody went", star.count(7), 0);
    }

    private static void seeAndPress() {
        DebtRooms x = built("2;01o;p00,r00;0102,0105,0108,1009");
        due(20, "press: 5 parts ten in halves", x.person(0, 8), 1);
        due(20, "see(0, true)", x.see(0, true), 1);
        due(20, "purses 2 to 9", x.person(0, 7), 0x3fc);
        due(20, "press: 3 and 5 left", x.person(0, 8), 1);
        due(20, "see(1, true)", x.see(1, true), 2);
        due(20, "purses 5 to 9", x.person(0, 7), 0x3e0);
        due(20, "press: 3 and 2 left", x.person(0, 8), 2);
        due(20, "see(2, false)", x.see(2, false), 3);
        due(20, "purses 5 to 7", x.person(0, 7), 0xe0);
        due(20, "press: all alike, the least", x.person(0, 8), 0);
        due(20, "the rich one is not seen", x.person(1, 7), 1023);
        due(20, "see(3, false), costs 10", x.see(3, false), 4);
        due(20, "the rich one's purses", x.person(1, 7), 1023);
        due(20, "press for the rich one", x.person(1, 8), 3);
        due(20, "see(3, true)", x.see(3, true), 5);
        due(20, "no purse is left", x.person(1, 7), 0);
        due(20, "press, none is left", x.person(1, 8), NONE);
        due(20, "see(4, true)", x.see(4, true), UNKNOWN);
        due(20, "see(-1, false)", x.see(-1, false), UNKNOWN);
        due(20, "see(0, true)", x.see(0, true), 6);
        due(20, "see(0, true), the 7th", x.see(0, true), FULL);
        due(20, "see(4, true), the 7th", x.see(4, true), UNKNOWN);
        due(20, "count(10)", x.count(10), 6);
        due(20, "see(0, true), no house", new DebtRooms().see(0, true), UNKNOWN);
        DebtRooms y = built("2;01o;d90,p00;0105,0107");
        y.pay(0);
        due(20, "press a paid one", y.person(0, 8), 0);
        due(20, "press, he owes none", y.person(1, 8), NONE);
        due(20, "see a paid one", y.see(0, false), 1);
        due(20, "purses 0 to 4", y.person(0, 7), 31);
        y.owe(0, 3);
        due(20, "purses 0 to 2, by what it costs now", y.person(0, 7), 7);
    }

    private static void forget() {
        due(21, "forget(), no house", new DebtRooms().forget(), 0);
        DebtRooms x = built("2;01o;p00,p00;0105");
        x.see(0, true);
        x.see(0, false);
        due(21, "forget()", x.forget(), 2);
        due(21, "person(0, 7)", x.person(0, 7), 1023);
        due(21, "count(10)", x.count(10), 0);
        due(21, "forget() again", x.forget(), 0);
        due(21, "see(0, true) again", x.see(0, true), 1);
    }

    private static void winters() {
        // By hand from seed 1: 1103527590, 377401575, 662824084, 1147902781 ..: by 65536
        // 16838, 5758, 10113, 17515: person 0, door 0; person 1, door 1.
        DebtRooms x = built("2;01o,01o;p90,p00;0112,0104");
        due(22, "winters(1, 1, 2)", x.winters(1, 1, 2), 377401575);
        due(22, "winters(2, 1, 2)", x.winters(2, 1, 2), 1147902781);
        due(22, "winters(1, 1, 0), he has gone where nobody is", x.winters(1, 1, 0), 0);
        due(22, "winters(1, 1, 1)", x.winters(1, 1, 1), 0);
        due(22, "nobody went", x.person(0, 2), 0);
        // An heir goes to room 1 and pays both there; the third stays.
        DebtRooms heir = built("2;01o,01o;h90,p00;0112,0104,0115");
        due(22, "winters(1, 1, 0), an heir", heir.winters(1, 1, 0), 7);
        due(22, "winters(1, 1, 1), an heir", heir.winters(1, 1, 1), 2);
        due(22, "nothing is paid", heir.count(4), 0);
        // A duke does not go, but pays all from where he is, as long as it lasts.
        DebtRooms duke = built("2;01o,01o;d90,p00;0112,0109,0105");
        due(22, "winters(1, 1, 0), a duke", duke.winters(1, 1, 0), 7);
        due(22, "winters(1, 1, 1), a duke", duke.winters(1, 1, 1), 2);
        duke.pay(0);
        due(22, "winters(1, 1, 0), one is paid ahead", duke.winters(1, 1, 0), 5);
        due(22, "winters(1, 1, 1), one is paid ahead", duke.winters(1, 1, 1), 2);
        // The sum is told, not what it costs.
        DebtRooms rich = built("2;01o,01o;r90,p00;0112");
        due(22, "winters(1, 1, 0), a rich one", rich.winters(1, 1, 0), 2);
        due(22, "winters(1, 0, 2)", x.winters(1, 0, 2), seedBehind(0, 2));
        due(22, "winters(60, most, 2)", x.winters(60, MOST, 2), seedBehind(MOST, 120));
        due(22, "winters(0, 1, 0)", x.winters(0, 1, 0), OUTSIDE);
        due(22, "winters(61, 1, 0)", x.winters(61, 1, 0), OUTSIDE);
        due(22, "winters(1, -1, 0)", x.winters(1, -1, 0), OUTSIDE);
        due(22, "winters(1, 1, 3)", x.winters(1, 1, 3), OUTSIDE);
        due(22, "winters(1, 1, -1)", x.winters(1, 1, -1), OUTSIDE);
        due(22, "winters(1, 1, 0), no house", new DebtRooms().winters(1, 1, 0), STATE);
        due(22, "winters(0, 1, 0), no house", new DebtRooms().winters(0, 1, 0), OUTSIDE);
    }

    private static int seedBehind(int seed, int draws) {
        long s = seed;
        for (int draw = 0; draw < draws; draw++) {
            s = (1103515245L * s + 12345L) % 2147483648L;
        }
        return (int) s;
    }

    private static void image() {
        due(23, "image(), no house", new DebtRooms().image(), STATE);
        DebtRooms x = built("2;01o;p90,p00;0101");
        due(23, "image()", x.image(), 0);
        x.go(0, 0);
        due(23, "image() later", x.image(), 1);
        x.go(0, 0);
        due(23, "the latest", x.restore(), 1);
    }

    private static void restore() {
        due(24, "restore(), no house", new DebtRooms().restore(), STATE);
        DebtRooms x = built("2;01o;d90,p00,p00;0105,1204");
        due(24, "restore(), none kept", x.restore(), STATE);
        x.see(0, true);
        x.go(1, 0);
        x.go(1, 0);
        x.give(1, 2);
        due(24, "image()", x.image(), 2);
        long before = x.digest();
        x.letter(50);
        long withPage = x.digest();
        x.pay(0);
        x.owe(1, 9);
        x.earn(2, 3);
        x.go(1, 0);
        x.give(0, 2);
        x.forget();
        x.see(1, false);
        x.see(1, true);
        due(24, "restore()", x.restore(), 2);
        due(24, "all but the page is as it was", x.digest(), withPage);
        x.blank();
        due(24, "all is as it was", x.digest(), before);
        due(24, "debt(0, 5)", x.debt(0, 5), 0);
        due(24, "debt(1, 3)", x.debt(1, 3), 4);
        due(24, "purse", x.person(2, 1), 0);
        due(24, "room", x.person(1, 2), 0);
        due(24, "key", x.count(8), 0);
        due(24, "seen", x.person(0, 7), 0x3e0);
        x.earn(0, 1);
        due(24, "restore() twice", x.restore(), 2);
        due(24, "all is as it was", x.digest(), before);
        write(x, "2;01o;d90,p00,p00;0105,1204");
        x.house();
        due(24, "restore(), the same house again", x.restore(), STATE);
        due(24, "image()", x.image(), 0);
        write(x, "2;01x");
        due(24, "house()", x.house(), STATE);
        due(24, "restore() behind no house", x.restore(), 0);
    }

    private static void count() {
        DebtRooms x = built("3;01o,12o;p50,h32,d70;0104,1213,2025");
        int[] wants = {3, 2, 3, 3, 0, 12, 15, 0, 0, 1, 0, 0, 1};
        for (int what = 0; what < wants.length; what++) {
            due(25, "count(" + what + ")", x.count(what), wants[what]);
        }
        x.pay(2);
        x.go(0, 0);
        x.go(0, 1);
        x.give(0, 1);
        x.give(1, 0);
        x.see(1, true);
        x.letter(9);
        x.letter(10);
        int[] later = {3, 2, 3, 3, 1, 7, 15, 2, 1, 0, 1, 2, 1};
        for (int what = 0; what < later.length; what++) {
            due(25, "count(" + what + ") later", x.count(what), later[what]);
        }
        due(25, "count(13)", x.count(13), OUTSIDE);
        due(25, "count(-1)", x.count(-1), OUTSIDE);
        due(25, "count(least)", x.count(LEAST), OUTSIDE);
    }

    private static void digest() {
        long none = 1223L;
        int[] empty = {0, 0, 0, 0, 0, 0, 0, 0, NONE, NONE, 0, 0, 0};
        for (int number : empty) {
            none = 31L * none + number;
        }
        due(26, "digest(), no house", new DebtRooms().digest(), none);
        DebtRooms x = built(RING);
        due(26, "digest()", x.digest(), toldBy(x, ""));
        x.go(1, 0);
        x.pay(0);
        x.pay(2);
        x.see(1, true);
        write(x, "4;~");
        long once = x.digest();
        due(26, "digest() changes nothing", x.digest(), once);
        due(26, "digest() with a page", once, toldBy(x, "4;~"));
    }

    private static long toldBy(DebtRooms x, String page) {
        java.util.List<Integer> told = new java.util.ArrayList<>();
        for (int person = 0; person < x.count(2); person++) {
            for (int what = 0; what <= 8; what++) {
                told.add(x.person(person, what));
            }
            for (int room = 0; room < x.count(0); room++) {
                told.add(x.way(person, room, 0));
                told.add(x.way(person, room, 10));
            }
            told.add(x.night(person, 2, 0));
            told.add(x.night(person, 2, 10));
            told.add(x.night(person, 2, 11));
        }
        for (int door = 0; door < x.count(1); door++) {
            for (int what = 0; what <= 2; what++) {
                told.add(x.door(door, what));
            }
        }
        for (int debt = 0; debt < x.count(3); debt++) {
            for (int what = 0; what <= 5; what++) {
                told.add(x.debt(debt, what));
            }
        }
        for (int room = 0; room < x.count(0); room++) {
            told.add(x.cancel(room, 0));
        }
        told.add(x.sound());
        told.add(x.met(0, 1, 2, 0));
        told.add(x.met(0, 1, 2, 1));
        for (int at = 0; at < page.length(); at++) {
            told.add((int) page.charAt(at));
        }
        for (int what = 0; what <= 12; what++) {
            told.add(x.count(what));
        }
        long h = 1223L;
        for (int number : told) {
            h = 31L * h + number;
        }
        return h;
    }
}
