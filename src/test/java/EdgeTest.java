import java.math.BigInteger;
import java.util.ArrayList;
import java.util.List;

/**
 * Each sentence of the document that names a boundary has a method of its own here, which
 * stands on both sides of it. No object is used for more than the document's 512 calls, but
 * where a comment says so.
 */
public final class EdgeTest {
    private static final int NONE = -1, UNKNOWN = -101, OUTSIDE = -102, STATE = -103, FULL = -104;
    private static final int LEAST = Integer.MIN_VALUE, MOST = Integer.MAX_VALUE;

    /** As little as a house can have of everything, and as much. */
    private static final String SMALL = "2;01o;p00,p00;0101";
    private static final String LARGE = "6;01o,12a,23b,34o,45o,50o;p00,b11,h22,d33;0101,1202,2303,3004";

    private static String sentence = "";
    private static int sentences = 0;
    private static int checks = 0;
    private static int wrong = 0;

    private static void of(String words) {
        sentence = words;
        sentences++;
    }

    private static void due(String what, long got, long want) {
        checks++;
        if (got != want) {
            wrong++;
            System.out.println("'" + sentence + "': " + what + " answered " + got + ", due is " + want);
        }
    }

    private static void write(DebtRooms x, String text) {
        for (int at = 0; at < text.length(); at++) {
            x.letter(text.charAt(at));
        }
    }

    private static DebtRooms written(String text) {
        DebtRooms x = new DebtRooms();
        write(x, text);
        return x;
    }

    private static DebtRooms built(String text) {
        DebtRooms x = written(text);
        if (x.house() < 2) {
            wrong++;
            System.out.println("'" + sentence + "': no house: " + text);
        }
        return x;
    }

    private static void earnUpTo(DebtRooms x, int person, int much) {
        for (int has = x.person(person, 1); has >= 0 && has < much; has = x.person(person, 1)) {
            x.earn(person, Math.min(9, much - has));
        }
    }

    public static void main(String[] args) {
        theText();
        theTerms();
        whatWouldBe();
        whatIsSeen();
        theCalls();
        whatIsToldOfAll();
        System.out.println(sentences + " sentences, " + checks + " checks, " + wrong + " wrong");
        if (wrong != 0) {
            System.exit(1);
        }
    }

    // ---- part 1: the text of a house

    private static void theText() {
        howManyRooms();
        howManyDoors();
        roomsAtADoor();
        locks();
        howManyPeople();
        kinds();
        purses();
        roomsOfPeople();
        howManyDebts();
        peopleOfADebt();
        roomsOfDebts();
        sums();
        everySignAtEveryPlace();
        everyBeginning();
        atMost512Calls();
    }

    /** The page is at fault at that place; or, below, at none, and it is no house yet. */
    private static void faultAt(String text, int place) {
        DebtRooms x = written(text);
        due("fault() of " + text, x.fault(), place);
        due("house() of " + text, x.house(), STATE);
    }

    private static void noFault(String text) {
        due("fault() of " + text, written(text).fault(), text.length());
    }

    private static void isRead(String text, int people) {
        due("fault() of " + text, written(text).fault(), text.length());
        due("house() of " + text, written(text).house(), people);
    }

    private static void howManyRooms() {
        of("how many ROOMS (2 to 6, numbered from 0)");
        faultAt("0;01o;p00,p00;0101", 0);
        faultAt("1;01o;p00,p00;0101", 0);
        faultAt("7;01o;p00,p00;0101", 0);
        faultAt("9;01o;p00,p00;0101", 0);
        for (int rooms = 2; rooms <= 6; rooms++) {
            String text = rooms + ";01o;p00,p00;0101";
            isRead(text, 2);
            DebtRooms x = built(text);
            due("count(0)", x.count(0), rooms);
            due("the last ROOM", x.cancel(rooms - 1, 0), 0);
            due("one beyond it", x.cancel(rooms, 0), UNKNOWN);
        }
    }

    private static void howManyDoors() {
        of("one to six DOORS (numbered from 0)");
        faultAt("2;;p00,p00;0101", 2);
        StringBuilder doors = new StringBuilder("01o");
        for (int many = 1; many <= 6; many++) {
            String text = "2;" + doors + ";p00,p00;0101";
            isRead(text, 2);
            DebtRooms x = built(text);
            due("count(1)", x.count(1), many);
            due("the last DOOR", x.door(many - 1, 1), 1);
            due("one beyond it", x.door(many, 1), UNKNOWN);
            doors.append(",01o");
        }
        faultAt("2;" + doors + ";p00,p00;0101", 25);
        faultAt("2;01o,;p00,p00;0101", 6);
    }

    private static void roomsAtADoor() {
        of("the ROOMS at its ends (unlike ones that there are)");
        for (int rooms = 2; rooms <= 6; rooms++) {
            for (int one = 0; one <= rooms; one++) {
                for (int other = 0; other <= rooms; other++) {
                    String text = rooms + ";" + one + other + "o;p00,p00;0101";
                    if (one == rooms) {
                        faultAt(text, 2);
                    } else if (other == rooms || other == one) {
                        faultAt(text, 3);
                    } else {
                        isRead(text, 2);
                        due("door(0, 0) of " + text, built(text).door(0, 0), one);
                        due("door(0, 1) of " + text, built(text).door(0, 1), other);
                    }
                }
            }
        }
        // The second door stands by itself: its ends need not be unlike the first one's.
        isRead("2;01o,01o;p00,p00;0101", 2);
        faultAt("2;01o,00o;p00,p00;0101", 7);
    }

    private static void locks() {
        of("the LOCK ('o' none, 'a' 0, 'b' 1)");
        due("'o'", built("2;01o;p00,p00;0101").door(0, 2), NONE);
        due("'a'", built("2;01a;p00,p00;0101").door(0, 2), 0);
        due("'b'", built("2;01b;p00,p00;0101").door(0, 2), 1);
        faultAt("2;01c;p00,p00;0101", 4);
        faultAt("2;01`;p00,p00;0101", 4);
        faultAt("2;01n;p00,p00;0101", 4);
        faultAt("2;01A;p00,p00;0101", 4);
        faultAt("2;010;p00,p00;0101", 4);
        faultAt("2;01;p00,p00;0101", 4);
    }

    private static void howManyPeople() {
        of("two to four PEOPLE (numbered from 0)");
        faultAt("2;01o;;0101", 6);
        faultAt("2;01o;p00;0101", 9);
        isRead("2;01o;p00,p00;0101", 2);
        isRead("2;01o;p00,p00,p00;0101", 3);
        isRead("2;01o;p00,p00,p00,p00;0101", 4);
        faultAt("2;01o;p00,p00,p00,p00,p00;0101", 21);
        faultAt("2;01o;p00,;0101", 10);
        for (int people = 2; people <= 4; people++) {
            DebtRooms x = built("2;01o;p00,p00" + ",p00,p00".substring(0, 4 * (people - 2)) + ";0101");
            due("count(2)", x.count(2), people);
            due("the last of the PEOPLE", x.person(people - 1, 0), 0);
            due("one beyond him", x.person(people, 0), UNKNOWN);
        }
    }

    private static void kinds() {
        of("KINDS are told by the letter: 0 PERSON 'p', 1 RICH 'r', 2 BLIND 'b', 3 HEIR 'h', 4 DUKE 'd'");
        for (int kind = 0; kind <= 4; kind++) {
            due("person(0, 0)", built("2;01o;" + "prbhd".charAt(kind) + "00,p00;0101").person(0, 0), kind);
        }
        for (char sign : "ceqaosgiPRBHD0".toCharArray()) {
            faultAt("2;01o;" + sign + "00,p00;0101", 6);
        }
    }

    private static void purses() {
        of("the PURSE (0 to 9)");
        for (int purse = 0; purse <= 9; purse++) {
            String text = "2;01o;p" + purse + "0,p" + (9 - purse) + "0;0101";
            isRead(text, 2);
            due("person(0, 1) of " + text, built(text).person(0, 1), purse);
            due("person(1, 1) of " + text, built(text).person(1, 1), 9 - purse);
        }
        faultAt("2;01o;p/0,p00;0101", 7);
        faultAt("2;01o;p:0,p00;0101", 7);
        faultAt("2;01o;p100,p00;0101", 9);
    }

    private static void roomsOfPeople() {
        of("the ROOM where one is");
        for (int rooms = 2; rooms <= 6; rooms++) {
            String last = rooms + ";01o;p0" + (rooms - 1) + ",p00;0101";
            isRead(last, 2);
            due("person(0, 2) of " + last, built(last).person(0, 2), rooms - 1);
            faultAt(rooms + ";01o;p0" + rooms + ",p00;0101", 8);
        }
        faultAt("2;01o;p0/,p00;0101", 8);
    }

    private static void howManyDebts() {
        of("one to four DEBTS (numbered from 0)");
        due("fault() of none", written("2;01o;p00,p00;").fault(), 14);
        due("house() of none", written("2;01o;p00,p00;").house(), STATE);
        due("house() without a ';'", written("2;01o;p00,p00").house(), STATE);
        StringBuilder debts = new StringBuilder("0101");
        for (int many = 1; many <= 4; many++) {
            String text = "2;01o;p00,p00;" + debts;
            isRead(text, 2);
            DebtRooms x = built(text);
            due("count(3)", x.count(3), many);
            due("the last DEBT", x.debt(many - 1, 3), 1);
            due("one beyond it", x.debt(many, 3), UNKNOWN);
            if (many < 4) {
                noFault(text + ",");
                due("house() of " + text + ",", written(text + ",").house(), STATE);
            }
            debts.append(",0101");
        }
        faultAt("2;01o;p00,p00;" + debts, 33);
        faultAt("2;01o;p00,p00;0101;", 18);
        faultAt("2;01o;p00,p00;0101,,", 19);
    }

    private static void peopleOfADebt() {
        of("who owes it, to whom (PEOPLE that there are, unlike)");
        for (int people = 2; people <= 4; people++) {
            String start = "2;01o;p00,p00" + ",p00,p00".substring(0, 4 * (people - 2)) + ";";
            for (int who = 0; who <= people; who++) {
                for (int whom = 0; whom <= people; whom++) {
                    String text = start + who + whom + "01";
                    if (who == people) {
                        faultAt(text, start.length());
                    } else if (whom == people || whom == who) {
                        faultAt(text, start.length() + 1);
                    } else {
                        isRead(text, people);
                        due("debt(0, 0) of " + text, built(text).debt(0, 0), who);
                        due("debt(0, 1) of " + text, built(text).debt(0, 1), whom);
                    }
                }
            }
        }
    }

    private static void roomsOfDebts() {
        of("in which ROOM");
        for (int rooms = 2; rooms <= 6; rooms++) {
            String last = rooms + ";01o;p00,p00;01" + (rooms - 1) + "1";
            isRead(last, 2);
            due("debt(0, 2) of " + last, built(last).debt(0, 2), rooms - 1);
            faultAt(rooms + ";01o;p00,p00;01" + rooms + "1", 16);
        }
        faultAt("2;01o;p00,p00;01/1", 16);
    }

    private static void sums() {
        of("the SUM (1 to 9)");
        for (int sum = 1; sum <= 9; sum++) {
            String text = "2;01o;p00,p00;010" + sum;
            isRead(text, 2);
            due("debt(0, 3) of " + text, built(text).debt(0, 3), sum);
        }
        faultAt("2;01o;p00,p00;0100", 17);
        faultAt("2;01o;p00,p00;010:", 17);
        faultAt("2;01o;p00,p00;010/", 17);
        faultAt("2;01o;p00,p00;01010", 18);
    }

    /** Behind each beginning of the text, each code that there is: only the signs told fit there. */
    private static void everySignFits(String text, String[] signs) {
        for (int place = 0; place < signs.length; place++) {
            for (int code = 1; code <= 126; code++) {
                DebtRooms x = written(text.substring(0, place));
                x.letter(code);
                boolean fits = signs[place].indexOf(code) >= 0;
                due("code " + code + " behind " + text.substring(0, place), x.fault(), fits ? place + 1 : place);
            }
        }
    }

    private static void everySignAtEveryPlace() {
        of("the first letter of THE PAGE that no HOUSE has there, behind those ahead of it");
        String digits = "0123456789";
        String sums = "123456789";
        everySignFits("3;02o;p91,r02;1029", new String[] {"23456", ";", "012", "12", "oab", ",;",
            "prbhd", digits, "012", ",", "prbhd", digits, "012", ",;", "01", "0", "012", sums, ","});
        everySignFits(LARGE, new String[] {"23456", ";",
            "012345", "12345", "oab", ",;", "012345", "02345", "oab", ",;", "012345", "01345", "oab", ",;",
            "012345", "01245", "oab", ",;", "012345", "01235", "oab", ",;", "012345", "01234", "oab", ";",
            "prbhd", digits, "012345", ",", "prbhd", digits, "012345", ",;",
            "prbhd", digits, "012345", ",;", "prbhd", digits, "012345", ";",
            "0123", "123", "012345", sums, ",", "0123", "023", "012345", sums, ",",
            "0123", "013", "012345", sums, ",", "0123", "012", "012345", sums, ""});
        // What comes behind the first fault is not looked at.
        due("behind a fault", written("2;00" + SMALL).fault(), 3);
        due("two faults", written("9x").fault(), 0);
    }

    private static void everyBeginning() {
        of("how many letters it has, if there is none; STATE: it is none");
        for (String text : new String[] {SMALL, LARGE}) {
            for (int many = 0; many <= text.length(); many++) {
                String start = text.substring(0, many);
                DebtRooms x = written(start);
                due("fault() of " + start, x.fault(), many);
                boolean isWhole = many == text.length() || text == LARGE && (many == 46 || many == 51 || many == 56);
                due("house() of " + start, x.house(), isWhole ? text == LARGE ? 4 : 2 : STATE);
                due("letters behind house() of " + start, x.count(11), isWhole ? 0 : many);
                due("how often behind house() of " + start, x.count(12), isWhole ? 1 : 0);
            }
        }
    }

    private static void atMost512Calls() {
        of("An object is used for at most 512 calls after it has been made");
        DebtRooms x = new DebtRooms();
        for (int call = 1; call <= 511; call++) {
            due("letter(), call " + call, x.letter(1 + call % 126), call <= 64 ? call : FULL);
        }
        due("blank(), call 512", x.blank(), 64);
        DebtRooms y = built(SMALL);
        for (int call = SMALL.length() + 2; call <= 511; call++) {
            due("go(), call " + call, y.go(0, 0), (call - SMALL.length()) % 2 == 0 ? 1 : 0);
        }
        due("count(7), call 512", y.count(7), 510 - SMALL.length());
    }

    // ---- the terms

    private static void theTerms() {
        atFirst();
        aDukeIsRich();
        doorsThatEndWhereHeIs();
        locksAndKeys();
        keysInTheSameRoom();
        asMuchAsItCosts();
        whereOneMayPay();
        onceIsPaid();
        ninetyNineAtMost();
    }

    private static void atFirst() {
        of("At first there is none; then PERSON 0 has KEY 0 and PERSON 1 KEY 1, no DEBT is PAID");
        DebtRooms x = new DebtRooms();
        due("count(8), no HOUSE", x.count(8), NONE);
        due("count(9), no HOUSE", x.count(9), NONE);
        write(x, LARGE);
        due("count(8), not read yet", x.count(8), NONE);
        due("count(9), not read yet", x.count(9), NONE);
        x.house();
        int[] keys = {1, 2, 0, 0};
        for (int one = 0; one < 4; one++) {
            due("person(" + one + ", 3)", x.person(one, 3), keys[one]);
            due("debt(" + one + ", 5)", x.debt(one, 5), 0);
        }
        due("count(8)", x.count(8), 0);
        due("count(9)", x.count(9), 1);
        due("count(4)", x.count(4), 0);
    }

    private static void aDukeIsRich() {
        of("All are PEOPLE; a DUKE is RICH, too");
        int[][] such = {{0, NONE, NONE, NONE, NONE}, {0, 0, NONE, NONE, NONE}, {0, NONE, 0, NONE, NONE},
            {0, NONE, NONE, 0, NONE}, {0, 0, NONE, NONE, 0}};
        for (int kind = 0; kind <= 4; kind++) {
            DebtRooms x = built("2;01o;" + "prbhd".charAt(kind) + "00,p00;0101");
            for (int as = 0; as <= 4; as++) {
                due("as(0, " + as + ") of a '" + "prbhd".charAt(kind) + "'", x.as(0, as), such[kind][as]);
            }
        }
    }

    private static void doorsThatEndWhereHeIs() {
        of("One may GO through a DOOR that ends where he is, to the other end");
        DebtRooms x = built("3;01o,12o,20o;p00,p01;0101");
        due("person(0, 4)", x.person(0, 4), 5);
        due("person(1, 4)", x.person(1, 4), 3);
        due("not where he is", x.go(0, 1), STATE);
        due("he stays", x.person(0, 2), 0);
        due("from its first end", x.go(0, 0), 1);
        due("from its second end", x.go(0, 0), 0);
        due("told the other way round, from its second end", x.go(0, 2), 2);
        due("from its first end", x.go(0, 2), 0);
        due("count(7)", x.count(7), 4);
    }

    private static void locksAndKeys() {
        of("if it has no LOCK, or he has its KEY; a BLIND one through any; a RICH one (a DUKE, too) never goes");
        // Doors without a lock, with 0, with 1; persons 0 and 1 have the keys, 2 and 3 none.
        String doors = "2;01o,01a,01b;";
        int[] withKey0 = {3, 0, 7, 3, 0}, withKey1 = {5, 0, 7, 5, 0}, withNone = {1, 0, 7, 1, 0};
        for (int kind = 0; kind <= 4; kind++) {
            String one = "prbhd".charAt(kind) + "00";
            DebtRooms x = built(doors + one + "," + one + "," + one + ",p00;0101");
            int[] may = {withKey0[kind], withKey1[kind], withNone[kind]};
            for (int person = 0; person < 3; person++) {
                due("person(" + person + ", 4) as " + one, x.person(person, 4), may[person]);
                for (int door = 0; door < 3; door++) {
                    boolean goes = (may[person] >> door & 1) == 1;
                    due("go(" + person + ", " + door + ") as " + one, x.go(person, door), goes ? 1 : STATE);
                    if (goes) {
                        due("and back", x.go(person, door), 0);
                    }
                }
            }
            x.give(0, 3);
            due("person(0, 4) as " + one + ", his KEY is given", x.person(0, 4), withNone[kind]);
            x.give(1, 0);
            due("person(0, 4) as " + one + ", he has the other KEY", x.person(0, 4), withKey1[kind]);
            x.give(0, 0);
            due("person(0, 3), both KEYS", x.person(0, 3), 3);
            due("person(0, 4) as " + one + ", both KEYS", x.person(0, 4), kind == 1 || kind == 4 ? 0 : 7);
        }
    }

    private static void keysInTheSameRoom() {
        of("A KEY may be GIVEN by who has it to another one in the same ROOM");
        DebtRooms x = built("2;01o;p00,p00,p01;0101");
        due("in another ROOM", x.give(0, 2), STATE);
        due("himself", x.give(0, 0), STATE);
        due("himself, KEY 1", x.give(1, 1), STATE);
        due("in the same ROOM", x.give(0, 1), 0);
        due("he has it no more", x.give(0, 1), STATE);
        x.go(1, 0);
        due("in the same ROOM now", x.give(0, 2), 1);
        due("in another ROOM now", x.give(0, 0), STATE);
        due("the other KEY goes by itself", x.give(1, 2), 1);
        due("both", x.person(2, 3), 3);
    }

    private static void asMuchAsItCosts() {
        of("his PURSE has as much as it COSTS him; it COSTS the SUM; a RICH one 1 more, a DUKE the SUM");
        for (int kind = 0; kind <= 4; kind++) {
            for (int sum = 1; sum <= 8; sum++) {
                int costs = kind == 1 ? sum + 1 : sum;
                String people = "prbhd".charAt(kind) + "";
                DebtRooms less = built("2;01o;" + people + (costs - 1) + "0,p00;010" + sum);
                due("debt(0, 4)", less.debt(0, 4), costs);
                due("person(0, 5), 1 less", less.person(0, 5), 0);
                due("pay(0), 1 less", less.pay(0), STATE);
                due("his PURSE stays", less.person(0, 1), costs - 1);
                due("earn(0, 1)", less.earn(0, 1), costs);
                due("person(0, 5), just as much", less.person(0, 5), 1);
                due("pay(0), just as much", less.pay(0), 0);
                due("the other one's PURSE", less.person(1, 1), sum);
            }
        }
        DebtRooms rich = built("2;01o;r90,p00;0109");
        due("debt(0, 4), a RICH one's dearest", rich.debt(0, 4), 10);
        due("pay(0) with 9", rich.pay(0), STATE);
        rich.earn(0, 1);
        due("pay(0) with 10", rich.pay(0), 0);
        due("the other one has the SUM", rich.person(1, 1), 9);
    }

    private static void whereOneMayPay() {
        of("he is in its ROOM, and he to whom it is owed, too: an HEIR need not find that one there; "
            + "a RICH one may PAY from wherever he is, whoever is where");
        for (int kind = 0; kind <= 4; kind++) {
            for (int where = 0; where < 4; where++) {
                boolean isThere = where % 2 == 0;
                boolean otherIsThere = where / 2 == 0;
                boolean may = kind == 1 || kind == 4 || isThere && (otherIsThere || kind == 3);
                DebtRooms x = built("2;01o;" + "prbhd".charAt(kind) + "9" + (isThere ? 0 : 1)
                    + ",p0" + (otherIsThere ? 0 : 1) + ";0104");
                String told = "'" + "prbhd".charAt(kind) + "' " + isThere + " " + otherIsThere;
                due("person(0, 5) of " + told, x.person(0, 5), may ? 1 : 0);
                due("pay(0) of " + told, x.pay(0), may ? kind == 1 ? 4 : 5 : STATE);
                due("debt(0, 5) of " + told, x.debt(0, 5), may ? 1 : 0);
            }
        }
    }

    private static void onceIsPaid() {
        of("One may PAY a DEBT that he owes, if it is not PAID");
        DebtRooms x = built("2;01o;p90,p90;0102,1001");
        due("person(0, 5), not the other one's", x.person(0, 5), 1);
        due("person(1, 5), not the other one's", x.person(1, 5), 2);
        due("pay(0)", x.pay(0), 7);
        due("person(0, 5), PAID", x.person(0, 5), 0);
        due("pay(0), PAID", x.pay(0), STATE);
        due("his PURSE", x.person(0, 1), 7);
        due("the other one's PURSE", x.person(1, 1), 11);
    }

    private static void ninetyNineAtMost() {
        of("The PURSE of the other one has the SUM more then (99 at most)");
        int[][] rows = {{89, 9, 98}, {90, 9, 99}, {91, 9, 99}, {99, 9, 99}, {98, 1, 99}, {99, 1, 99}, {97, 1, 98}};
        for (int[] row : rows) {
            DebtRooms x = built("2;01o;d90,p00;010" + row[1]);
            earnUpTo(x, 1, row[0]);
            due("he PAYS the whole SUM", x.pay(0), 9 - row[1]);
            due(row[0] + " and " + row[1], x.person(1, 1), row[2]);
            due("count(6)", x.count(6), 9 - row[1] + row[2]);
            due("STANDING", x.person(1, 6), 100 + row[2]);
        }
        // A winter from seed 1 takes person 0 and door 0: what the other one has more is held, too.
        DebtRooms winter = built("2;01o;d90,p00;0109,1011");
        earnUpTo(winter, 1, 99);
        due("winters(1, 1, 0)", winter.winters(1, 1, 0), 9);
    }

    // ---- part 2: what would be

    private static void whatWouldBe() {
        ways();
        waysOfLikeLength();
        nightsOfSoManyDoors();
        nightsThatCannotBe();
        nightsByNumber();
        cancelledAtMost();
        cancelledByNumber();
        standings();
        soundOnes();
        hours();
        metOrNot();
    }

    private static void wayIs(DebtRooms x, int person, int room, int many, int... doors) {
        String call = "way(" + person + ", " + room + ", ";
        due(call + "0)", x.way(person, room, 0), many);
        for (int place = 0; place < 5; place++) {
            due(call + (10 + place) + ")", x.way(person, room, 10 + place), place < doors.length ? doors[place] : NONE);
        }
    }

    private static void ways() {
        of("WAY: what = 0 how many, 10 to 14 the so-manieth DOOR (NONE: there are not so many); NONE");
        DebtRooms x = built("6;01o,12o,23o,34o,45o;p00,r00,d05,p05;0101");
        for (int room = 0; room <= 5; room++) {
            int[] there = new int[room];
            int[] back = new int[5 - room];
            for (int step = 0; step < room; step++) {
                there[step] = step;
            }
            for (int step = 0; step < 5 - room; step++) {
                back[step] = 4 - step;
            }
            wayIs(x, 0, room, room, there);
            wayIs(x, 3, room, 5 - room, back);
            wayIs(x, 1, room, room == 0 ? 0 : NONE);
            wayIs(x, 2, room, room == 5 ? 0 : NONE);
        }
        due("what = 14, the last", x.way(0, 5, 14), 4);
        due("what = 15", x.way(0, 5, 15), OUTSIDE);
        due("what = 9", x.way(0, 5, 9), OUTSIDE);
        due("what = 1", x.way(0, 5, 1), OUTSIDE);
        due("what = -1", x.way(0, 5, -1), OUTSIDE);
        due("what = 15, no WAY", x.way(1, 5, 15), OUTSIDE);
        // No door at all leads to the last room: with a key, without one, from there.
        DebtRooms y = built("3;01a;p00,p00,p02;0101");
        wayIs(y, 0, 1, 1, 0);
        wayIs(y, 1, 1, NONE);
        wayIs(y, 0, 2, NONE);
        wayIs(y, 2, 0, NONE);
        wayIs(y, 2, 2, 0);
        y.give(0, 1);
        wayIs(y, 0, 1, NONE);
        wayIs(y, 1, 1, 1, 0);
    }

    private static void waysOfLikeLength() {
        of("through how few DOORS he comes there; of like ones the first by numbers (the first DOOR first)");
        // Three ways of two doors: 1 and 4, 1 and 5, 2 and 0; and one of three from the first door on.
        DebtRooms x = built("5;24o,03o,02o,31o,34o,34o;p00,p00;0101");
        wayIs(x, 0, 4, 2, 1, 4);
        wayIs(x, 0, 1, 2, 1, 3);
        // The shorter one goes ahead of the one by lower numbers.
        DebtRooms y = built("4;01o,12o,23o,03o;p00,p00;0101");
        wayIs(y, 0, 3, 1, 3);
        wayIs(y, 0, 2, 2, 0, 1);
        // In whatever order three doors are told that join three rooms: one door is enough.
        String[] orders = {"01o,12o,20o", "01o,20o,12o", "12o,01o,20o", "12o,20o,01o", "20o,01o,12o", "20o,12o,01o"};
        for (String order : orders) {
            DebtRooms three = built("3;" + order + ";p00,p01,p02;0101");
            for (int person = 0; person < 3; person++) {
                wayIs(three, person, person, 0);
                wayIs(three, person, (person + 1) % 3, 1, doorOf(three, person, (person + 1) % 3));
                wayIs(three, person, (person + 2) % 3, 1, doorOf(three, person, (person + 2) % 3));
            }
        }
    }

    private static int doorOf(DebtRooms x, int one, int other) {
        for (int door = 0; door < 3; door++) {
            int ends = 1 << x.door(door, 0) | 1 << x.door(door, 1);
            if (ends == (1 << one | 1 << other)) {
                return door;
            }
        }
        return NONE;
    }

    private static void nightIs(DebtRooms x, int person, int doors, int much, int... which) {
        String call = "night(" + person + ", " + doors + ", ";
        due(call + "0)", x.night(person, doors, 0), much);
        for (int place = 0; place < 4; place++) {
            due(call + (10 + place) + ")", x.night(person, doors, 10 + place),
                place < which.length ? which[place] : NONE);
        }
    }

    private static void nightsOfSoManyDoors() {
        of("NIGHT for one and so many DOORS (0 to 4): he goes through just so many");
        // A row of rooms; an heir owes 1, 2, 3 in rooms 0, 2, 4 and 9 in room 5, beyond four doors.
        DebtRooms x = built("6;01o,12o,23o,34o,45o;h90,p00;0101,0122,0143,0159");
        nightIs(x, 0, 0, 1);
        nightIs(x, 0, 1, 1, 0);
        nightIs(x, 0, 2, 3, 0, 1);
        nightIs(x, 0, 3, 3, 0, 1, 1);
        nightIs(x, 0, 4, 6, 0, 1, 2, 3);
        due("doors = -1", x.night(0, -1, 0), OUTSIDE);
        due("doors = 5", x.night(0, 5, 0), OUTSIDE);
        due("what = 13, the last", x.night(0, 4, 13), 3);
        due("what = 14", x.night(0, 4, 14), OUTSIDE);
        due("what = 9", x.night(0, 4, 9), OUTSIDE);
        due("what = 1", x.night(0, 4, 1), OUTSIDE);
        due("what = -1", x.night(0, 4, -1), OUTSIDE);
        due("nobody went", x.count(7), 0);
        due("nothing is PAID", x.count(4), 0);
        // Just so many: with three he has to leave the room of the other one again, and has paid there.
        DebtRooms y = built("2;01o;p90,p01;0115");
        nightIs(y, 0, 0, 0);
        nightIs(y, 0, 1, 5, 0);
        nightIs(y, 0, 2, 5, 0, 0);
    }

    private static void nightsThatCannotBe() {
        of("none, if he cannot go so far");
        // No door for a rich one and a duke, none of room 2, one behind a lock; a blind one goes.
        DebtRooms x = built("3;01b;r90,d91,h92,p90;0101,1012,2123,3004");
        for (int person = 0; person < 4; person++) {
            nightIs(x, person, 0, new int[] {1, 2, 3, 4}[person]);
            for (int doors = 1; doors <= 4; doors++) {
                nightIs(x, person, doors, NONE);
            }
        }
        DebtRooms y = built("3;01b;b90,p91;0112,1004");
        nightIs(y, 0, 1, 2, 0);
        nightIs(y, 0, 4, 2, 0, 0, 0, 0);
        nightIs(y, 1, 1, 4, 0);
        due("what = 14, none", x.night(0, 1, 14), OUTSIDE);
        // He can, but has nothing to pay: that is 0, not none.
        nightIs(built(SMALL), 1, 0, 0);
        nightIs(built(SMALL), 1, 2, 0, 0, 0);
    }

    private static void nightsByNumber() {
        of("PAYS in each ROOM where he comes, the first one, too, all that he owes there and may, by number, "
            + "as long as he can; of like ones the first by numbers");
        nightIs(built("2;01o;h70,p00;0103,0104,0101"), 0, 0, 7);
        nightIs(built("2;01o;h70,p00;0103,0105,0104"), 0, 0, 7);
        nightIs(built("2;01o;h70,p00;0108,0105"), 0, 0, 5);
        // Only there: a rich one and a duke may pay from where they are, but do not come to the other room.
        nightIs(built("2;01o;r90,p00;0102,0113"), 0, 0, 2);
        nightIs(built("2;01o;d91,p00;0102,0113"), 0, 0, 3);
        nightIs(built("3;01o;d92,p00;0102,0113"), 0, 0, 0);
        // He pays 1 at first and lacks it in the next room.
        nightIs(built("2;01o;h50,p00;0101,0115"), 0, 1, 1, 0);
        nightIs(built("2;01o;h60,p00;0101,0115"), 0, 1, 6, 0);
        // Alike: by door 0, though door 1 leads to as much; more: by door 1.
        nightIs(built("3;01o,02o;h90,p00;0114,0124"), 0, 1, 4, 0);
        nightIs(built("3;01o,02o;h90,p00;0114,0125"), 0, 1, 5, 1);
        nightIs(built("3;01o,01o;h90,p00;0114"), 0, 2, 4, 0, 0);
    }

    private static void cancelIs(DebtRooms x, int room, int much, int... less) {
        due("cancel(" + room + ", 0)", x.cancel(room, 0), much);
        for (int debt = 0; debt < 4; debt++) {
            due("cancel(" + room + ", " + (10 + debt) + ")", x.cancel(room, 10 + debt),
                debt < less.length ? less[debt] : NONE);
        }
    }

    private static void cancelledAtMost() {
        of("DEBTS there that are not PAID are made less, each by some whole number (0 to its SUM); "
            + "NONE: it is not of that ROOM, or PAID");
        cancelIs(built("2;01o;p00,p00;0101,1001"), 0, 2, 1, 1);
        cancelIs(built("2;01o;p00,p00;0109,1009"), 0, 18, 9, 9);
        cancelIs(built("2;01o;p00,p00;0109,1001"), 0, 2, 1, 1);
        cancelIs(built("2;01o;p00,p00;0109,0109"), 0, 0, 0, 0);
        cancelIs(built("2;01o;p00,p00;0109,1019"), 0, 0, 0, NONE);
        cancelIs(built("2;01o;p00,p00;0109,1019"), 1, 0, NONE, 0);
        cancelIs(built("3;01o;p00,p00;0109,1009"), 2, 0);
        cancelIs(built("2;01o;p00,p00,p00,p00;0109,1209,2309,3009"), 0, 36, 9, 9, 9, 9);
        cancelIs(built("2;01o;p00,p00,p00,p00;0109,1209,2309,3001"), 0, 4, 1, 1, 1, 1);
        // Only if one of them became more by it would these be a ring: 0 is the least.
        String[] noRings = {"0104,1204,0204", "0104,0204,1204", "1204,0104,0204", "1204,0204,0104", "0204,0104,1204",
            "0204,1204,0104", "2104,1004,2004", "2104,2004,1004", "1004,2104,2004", "1004,2004,2104"};
        for (String debts : noRings) {
            cancelIs(built("2;01o;p00,p00,p00;" + debts), 0, 0, 0, 0, 0);
        }
        DebtRooms x = built("2;01o;p90,p90;0104,1006");
        cancelIs(x, 0, 8, 4, 4);
        x.pay(0);
        cancelIs(x, 0, 0, NONE, 0);
        x.owe(0, 6);
        cancelIs(x, 0, 12, 6, 6);
        due("what = 13", x.cancel(0, 13), NONE);
        due("what = 14", x.cancel(0, 14), OUTSIDE);
        due("what = 9", x.cancel(0, 9), OUTSIDE);
        due("what = 1", x.cancel(0, 1), OUTSIDE);
        due("what = -1", x.cancel(0, -1), OUTSIDE);
        due("room = 1", x.cancel(1, 0), 0);
        due("room = 2", x.cancel(2, 0), UNKNOWN);
        due("room = -1", x.cancel(-1, 0), UNKNOWN);
    }

    private static void cancelledByNumber() {
        of("of like ones the first by numbers (DEBT 0 by as little as can be, and so on)");
        cancelIs(built("2;01o;p00,p00;0105,0105,1005"), 0, 10, 0, 5, 5);
        cancelIs(built("2;01o;p00,p00;0105,0104,1005"), 0, 10, 1, 4, 5);
        cancelIs(built("2;01o;p00,p00;1005,0105,0105"), 0, 10, 5, 0, 5);
        cancelIs(built("2;01o;p00,p00;0103,0103,0103,1004"), 0, 8, 0, 1, 3, 4);
    }

    private static void standings() {
        of("STANDING of one: his PURSE, and all that he is owed, less all that he owes "
            + "(what is not PAID; told as 100 more)");
        DebtRooms x = built("2;01o;d00,p90;0109,0109,0109,0109");
        due("the lowest", x.person(0, 6), 64);
        due("he is owed all", x.person(1, 6), 145);
        earnUpTo(x, 1, 99);
        due("the highest", x.person(1, 6), 235);
        earnUpTo(x, 0, 36);
        due("neither less nor more", x.person(0, 6), 100);
        x.pay(3);
        due("what is PAID is not owed any more", x.person(0, 6), 100);
        due("nor is he owed it", x.person(1, 6), 99 + 27 + 100);
        // It is the sum that he owes, not what it costs a rich one.
        due("a RICH one", built("2;01o;r00,p00;0109").person(0, 6), 91);
    }

    private static void soundOnes() {
        of("SOUND: who has as much as all that he owes COSTS him PAYS it all; who owes nothing more then: as bits");
        due("1 less", built("2;01o;p40,p00;0105").sound(), 2);
        due("just as much", built("2;01o;p50,p00;0105").sound(), 3);
        due("a RICH one with the SUM", built("2;01o;r50,p00;0105").sound(), 2);
        due("a RICH one with 1 more", built("2;01o;r60,p00;0105").sound(), 3);
        due("a RICH one with 1 more for two", built("2;01o;r60,p00;0104,0101").sound(), 2);
        due("a RICH one with 2 more for two", built("2;01o;r70,p00;0104,0101").sound(), 3);
        due("a DUKE with the SUM", built("2;01o;d50,p00;0105").sound(), 3);
        due("all of it, or none: 1 less", built("2;01o;p50,p00,p00;0105,0101,1205").sound(), 4);
        due("all of it, or none: just as much", built("2;01o;p60,p00,p00;0105,0101,1205").sound(), 7);
        due("nobody", built("2;01o;p00,p00;0101,1001").sound(), 0);
        due("one behind the other, the last first", built("2;01o;p00,p00,p00,p91;3209,2109,1009,0309").sound(), 15);
        due("1 less at the start", built("2;01o;p00,p00,p00,p81;3209,2109,1009,0309").sound(), 0);
        due("no HOUSE", new DebtRooms().sound(), STATE);
    }

    private static void metIs(DebtRooms x, int person, int other, int hours, int above, int below) {
        String call = "met(" + person + ", " + other + ", " + hours + ", ";
        due(call + "0)", x.met(person, other, hours, 0), above);
        due(call + "1)", x.met(person, other, hours, 1), below);
    }

    private static void hours() {
        of("MET for two and so many HOURS (1 to 3)");
        // Three doors away, and at each step one door of two leads on.
        DebtRooms x = built("4;01o,01o,12o,12o,23o,23o;p00,p03,p02,p01;0101");
        metIs(x, 0, 1, 1, 0, 1);
        metIs(x, 0, 1, 2, 0, 1);
        metIs(x, 0, 1, 3, 1, 4);
        metIs(x, 0, 2, 2, 1, 2);
        metIs(x, 0, 2, 1, 0, 1);
        metIs(x, 0, 3, 1, 1, 1);
        due("hours = 0", x.met(0, 1, 0, 0), OUTSIDE);
        due("hours = 4", x.met(0, 1, 4, 0), OUTSIDE);
        due("what = -1", x.met(0, 1, 1, -1), OUTSIDE);
        due("what = 2", x.met(0, 1, 1, 2), OUTSIDE);
    }

    private static void metOrNot() {
        of("each as likely (stays, if there is none); behind any of these (or is now); in lowest terms");
        // Room 0 has six doors, one of them to the other one; each comes back.
        DebtRooms six = built("3;01o,02o,02o,02o,02o,02o;p00,p01,r01,p00;0101");
        metIs(six, 0, 1, 1, 1, 6);
        metIs(six, 0, 1, 2, 1, 6);
        metIs(six, 0, 1, 3, 11, 36);
        metIs(six, 0, 3, 1, 1, 1);
        metIs(six, 1, 2, 3, 1, 1);
        metIs(six, 1, 3, 1, 1, 1);
        // The rich one stays: never, or already.
        metIs(six, 2, 0, 3, 0, 1);
        metIs(six, 2, 1, 1, 1, 1);
        // The most parts that can be: 1 in 6, then 1 in 5 elsewhere.
        DebtRooms five = built("6;01o,02o,03o,04o,05o,01a;p01,p02,b00,p00;0101");
        metIs(five, 3, 1, 1, 1, 5);
        metIs(five, 2, 1, 1, 1, 6);
        metIs(five, 0, 1, 2, 1, 6);
        // What was asked ahead leaves nothing behind: from room 2 nobody is in room 1 in an hour.
        DebtRooms again = built("3;01o,02o;p00,p01,p02;0101");
        metIs(again, 0, 1, 2, 1, 2);
        metIs(again, 2, 1, 1, 0, 1);
        metIs(again, 2, 1, 2, 1, 2);
        metIs(again, 2, 1, 1, 0, 1);
        // Who is away again behind the last hour was met all the same, and is counted once.
        DebtRooms away = built("2;01o;p00,p01;0101");
        metIs(away, 0, 1, 1, 1, 1);
        metIs(away, 0, 1, 2, 1, 1);
    }

    // ---- part 3: what is seen

    private static void whatIsSeen() {
        sixAtMost();
        forgotten();
        pursesByWhatItCosts();
        ofOneAlone();
        pressOne();
        pressNone();
        howManyTimes();
        seeds();
        draws();
        wintersAsTheyWouldBe();
    }

    private static void sixAtMost() {
        of("SEEN (6 at most)");
        DebtRooms x = built("2;01o;p00,p00;0105");
        for (int many = 1; many <= 6; many++) {
            due("see(0, true), number " + many, x.see(0, true), many);
            due("count(10)", x.count(10), many);
        }
        due("see(0, false), the 7th", x.see(0, false), FULL);
        due("count(10)", x.count(10), 6);
        due("the 7th does not count", x.person(0, 7), 0x3e0);
        due("PRESS all the same", x.person(0, 8), 0);
        due("forget()", x.forget(), 6);
        due("see(0, false), the first again", x.see(0, false), 1);
        due("PURSES by this alone", x.person(0, 7), 0x1f);
    }

    private static void forgotten() {
        of("Nothing is SEEN any more: how much was");
        DebtRooms none = new DebtRooms();
        due("forget(), no HOUSE", none.forget(), 0);
        due("see(0, true), no HOUSE", none.see(0, true), UNKNOWN);
        due("forget(), a refused one is not SEEN", none.forget(), 0);
        DebtRooms x = built("2;01o;p00,p00;0105,1003");
        due("forget(), nothing is SEEN", x.forget(), 0);
        for (int many = 1; many <= 6; many++) {
            for (int at = 0; at < many; at++) {
                x.see(at % 2, at % 2 == 0);
            }
            due("forget() of " + many, x.forget(), many);
            due("count(10)", x.count(10), 0);
            due("person(0, 7)", x.person(0, 7), 1023);
            due("person(1, 7)", x.person(1, 7), 1023);
            due("forget() again", x.forget(), 0);
        }
        x.see(0, false);
        due("what was SEEN ahead does not come back", x.person(0, 7), 0x1f);
        due("of the other one neither", x.person(1, 7), 1023);
    }

    private static void pursesByWhatItCosts() {
        of("PURSES (0 to 9) it can be now, so that all that is SEEN of him is so: as bits");
        for (int kind = 0; kind <= 4; kind++) {
            for (int sum = 1; sum <= 9; sum++) {
                int costs = kind == 1 ? sum + 1 : sum;
                String text = "2;01o;" + "prbhd".charAt(kind) + "00,p00;010" + sum;
                DebtRooms x = built(text);
                due("nothing is SEEN", x.person(0, 7), 1023);
                x.see(0, true);
                due("he had " + costs, x.person(0, 7), 1023 >> costs << costs);
                x.see(0, false);
                due("he had and had not", x.person(0, 7), 0);
                DebtRooms y = built(text);
                y.see(0, false);
                due("he had not " + costs, y.person(0, 7), (1 << costs) - 1);
            }
        }
    }

    private static void ofOneAlone() {
        of("all that is SEEN of him is so");
        DebtRooms x = built("2;01o;p50,p50;0103,1007,0106");
        x.see(0, true);
        due("not of the other one", x.person(1, 7), 1023);
        x.see(1, false);
        due("of the first one", x.person(0, 7), 0x3f8);
        due("of the other one", x.person(1, 7), 0x7f);
        x.see(2, false);
        due("3 to 5", x.person(0, 7), 0x38);
        // It is not known how much there is in it: what he truly has, earns or pays tells nothing.
        x.pay(0);
        x.earn(0, 9);
        due("3 to 5 still", x.person(0, 7), 0x38);
    }

    private static void pressOne() {
        of("PRESS for one: which DEBT that he owes (PAID or not), so that fewest of these are left at worst: "
            + "of like ones the least");
        due("4 or 6 left: the least", built("2;01o;p00,p00;0104,0106").person(0, 8), 0);
        due("4 or 6 left: the least", built("2;01o;p00,p00;0106,0104").person(0, 8), 0);
        due("5 is better than 6", built("2;01o;p00,p00;0104,0105").person(0, 8), 1);
        due("a RICH one's 4 costs 5", built("2;01o;r00,p00;0105,0104").person(0, 8), 1);
        due("not the other one's", built("2;01o;p00,p00;1005,0101").person(0, 8), 1);
        due("9 at worst", built("2;01o;r00,p00;0109,0109,0108").person(0, 8), 2);
        due("all ten left", built("2;01o;r00,p00;0109").person(0, 8), 0);
        due("all ten left: the least", built("2;01o;r00,p00;1001,0109,0109").person(0, 8), 1);
        DebtRooms x = built("2;01o;d90,p00;0105,0104");
        x.pay(0);
        due("PAID", x.person(0, 8), 0);
    }

    private static void pressNone() {
        of("none, if he owes none, or there are none");
        DebtRooms x = built("2;01o;p00,r00;0101,0102");
        due("he owes none", x.person(1, 8), NONE);
        due("he owes some", x.person(0, 8), 1);
        x.see(0, false);
        due("one PURSE is left", x.person(0, 7), 1);
        due("one is left", x.person(0, 8), 0);
        x.see(1, true);
        due("no PURSE is left", x.person(0, 7), 0);
        due("there are none", x.person(0, 8), NONE);
        x.forget();
        due("there are some again", x.person(0, 8), 1);
    }

    private static int seedBehind(int seed, int draws) {
        BigInteger behind = BigInteger.valueOf(seed);
        for (int draw = 0; draw < draws; draw++) {
            behind = behind.multiply(BigInteger.valueOf(1103515245)).add(BigInteger.valueOf(12345))
                .mod(BigInteger.ONE.shiftLeft(31));
        }
        return behind.intValueExact();
    }

    private static void howManyTimes() {
        of("times (1 to 60)");
        DebtRooms x = built(SMALL);
        due("winters(0, 5, 2)", x.winters(0, 5, 2), OUTSIDE);
        due("winters(-1, 5, 2)", x.winters(-1, 5, 2), OUTSIDE);
        due("winters(61, 5, 2)", x.winters(61, 5, 2), OUTSIDE);
        due("winters(most, 5, 2)", x.winters(MOST, 5, 2), OUTSIDE);
        for (int times : new int[] {1, 2, 59, 60}) {
            due("winters(" + times + ", 5, 2)", x.winters(times, 5, 2), seedBehind(5, 2 * times));
        }
    }

    private static void seeds() {
        of("seed (0 at least); its rest by 2 to the 31");
        DebtRooms x = built(SMALL);
        due("winters(1, -1, 2)", x.winters(1, -1, 2), OUTSIDE);
        due("winters(1, least, 2)", x.winters(1, LEAST, 2), OUTSIDE);
        // From 0: 12345; from that 1103515245 * 12345 + 12345 = 13622895711870, less 6343 times 2 to the 31.
        due("winters(1, 0, 2)", x.winters(1, 0, 2), 1406932606);
        due("winters(1, most, 2)", x.winters(1, MOST, 2), seedBehind(MOST, 2));
        for (int seed : new int[] {1, 65535, 65536, 1 << 30, MOST - 1}) {
            due("winters(1, " + seed + ", 2)", x.winters(1, seed, 2), seedBehind(seed, 2));
            due("winters(7, " + seed + ", 2)", x.winters(7, seed, 2), seedBehind(seed, 14));
        }
        due("what = -1", x.winters(1, 0, -1), OUTSIDE);
        due("what = 3", x.winters(1, 0, 3), OUTSIDE);
    }

    private static void draws() {
        of("one by a DRAW of how many PEOPLE there are goes through a DOOR by a DRAW of how many there are: "
            + "that by 65536 (rounded down), its rest");
        // All heirs who can pay in room 1 only, and one of the doors alone leads there: so what is
        // paid in one winter tells who was drawn, and that his door was drawn.
        for (int doors = 1; doors <= 6; doors++) {
            for (int people = 2; people <= 4; people++) {
                for (int leads = 0; leads < doors; leads++) {
                    oneWinterEach(doors, people, leads);
                }
            }
        }
    }

    private static void oneWinterEach(int doors, int people, int leads) {
        StringBuilder text = new StringBuilder("3");
        for (int door = 0; door < doors; door++) {
            text.append(door == 0 ? ";" : ",").append(door == leads ? "01o" : "02o");
        }
        for (int person = 0; person < people; person++) {
            text.append(person == 0 ? ";" : ",").append("h90");
        }
        for (int person = 0; person < people; person++) {
            text.append(person == 0 ? ";" : ",").append(person).append((person + 1) % people).append(1).append(person + 1);
        }
        DebtRooms x = built(text.toString());
        for (int seed = 0; seed < 40; seed++) {
            int first = seedBehind(seed, 1);
            int second = seedBehind(seed, 2);
            int person = first / 65536 % people;
            boolean comesThere = second / 65536 % doors == leads;
            due("winters(1, " + seed + ", 0) in " + text, x.winters(1, seed, 0), comesThere ? person + 1 : 0);
            due("winters(1, " + seed + ", 1) in " + text, x.winters(1, seed, 1), comesThere ? 1 : 0);
        }
    }

    private static void wintersAsTheyWouldBe() {
        of("WINTERS by a SEED, as they would be: then he PAYS all that he may, by number; "
            + "how many DEBTS are PAID in the end");
        // From seed 1 person 0 is drawn, then person 1. A duke pays from where he is.
        DebtRooms x = built("2;01o,01o;d90,d00;0119,1018,1001,0101");
        due("one winter: 9 of 9, then nothing is left", x.winters(1, 1, 0), 9);
        due("one winter", x.winters(1, 1, 1), 1);
        due("two winters: he pays from what he got", x.winters(2, 1, 0), 18);
        due("two winters", x.winters(2, 1, 1), 3);
        due("nothing is PAID", x.count(4), 0);
        due("all PURSES", x.count(6), 9);
        due("nobody went", x.count(7), 0);
        due("pay(0)", x.pay(0), 0);
        due("what was PAID ahead is PAID in the end", x.winters(1, 1, 1), 1);
        due("but not by a winter", x.winters(1, 1, 0), 0);
    }

    // ---- the calls and the bounds that they name

    private static void theCalls() {
        codes();
        theLongestPage();
        blanks();
        anotherHouse();
        whats();
        howManyArePaid();
        tooManyDoors();
        withoutAHouse();
        howMuchIsEarned();
        anotherSum();
        theSameOne();
    }

    private static void codes() {
        of("OUTSIDE: code (1 to 126)");
        int[] outside = {LEAST, -127, -1, 0, 127, 128, 255, 256, 256 + 52, 65536 + 52, MOST};
        for (int code : outside) {
            DebtRooms x = written("2");
            due("letter(" + code + ")", x.letter(code), OUTSIDE);
            due("letters behind it", x.count(11), 1);
        }
        for (int code = 1; code <= 126; code++) {
            DebtRooms x = written("2");
            due("letter(" + code + ")", x.letter(code), 2);
            due("letters behind it", x.count(11), 2);
        }
    }

    private static void theLongestPage() {
        of("FULL: above 64");
        DebtRooms x = new DebtRooms();
        for (int many = 1; many <= 64; many++) {
            due("letter(), number " + many, x.letter(50), many);
        }
        long before = x.digest();
        due("letter(50), the 65th", x.letter(50), FULL);
        due("letter(1), the 65th", x.letter(1), FULL);
        due("letter(126), the 65th", x.letter(126), FULL);
        due("OUTSIDE goes ahead: letter(0)", x.letter(0), OUTSIDE);
        due("OUTSIDE goes ahead: letter(127)", x.letter(127), OUTSIDE);
        due("nothing has changed", x.digest(), before);
        due("count(11)", x.count(11), 64);
        due("fault()", x.fault(), 1);
        due("house()", x.house(), STATE);
        due("blank()", x.blank(), 64);
        due("letter(50)", x.letter(50), 1);
    }

    private static void blanks() {
        of("THE PAGE is empty: how many letters it had");
        DebtRooms x = new DebtRooms();
        due("of none", x.blank(), 0);
        x.letter(50);
        due("of one", x.blank(), 1);
        due("of none again", x.blank(), 0);
        due("fault() of none", x.fault(), 0);
        due("house() of none", x.house(), STATE);
        write(x, LARGE);
        due("of a whole HOUSE", x.blank(), 61);
        due("no HOUSE was read", x.count(12), 0);
        DebtRooms y = built(SMALL);
        write(y, "2;0");
        due("beside a HOUSE", y.blank(), 3);
        due("the HOUSE stays", y.count(2), 2);
    }

    private static void anotherHouse() {
        of("THE PAGE is read as THE HOUSE (another one is gone, with all that was); THE PAGE is empty then");
        // Each house with another, larger or smaller one behind it is as if it were the first one read.
        for (String text : new String[] {SMALL, LARGE}) {
            String other = text == SMALL ? LARGE : SMALL;
            DebtRooms fresh = built(text);
            DebtRooms x = built(other);
            earnUpTo(x, 0, 20);
            x.go(0, 0);
            x.go(0, 0);
            x.pay(0);
            x.give(0, 1);
            x.see(0, true);
            x.owe(0, 9);
            x.image();
            if (other == LARGE) {
                x.earn(3, 1);
                due("pay(3)", x.pay(3), 0);
            }
            write(x, text);
            due("house()", x.house(), text == SMALL ? 2 : 4);
            due("how often", x.count(12), 2);
            for (int what = 0; what <= 11; what++) {
                due("count(" + what + ")", x.count(what), fresh.count(what));
            }
            for (int one = 0; one < 4; one++) {
                for (int what = 0; what <= 8; what++) {
                    due("person(" + one + ", " + what + ")", x.person(one, what), fresh.person(one, what));
                    due("debt(" + one + ", " + what + ")", x.debt(one, what), fresh.debt(one, what));
                }
            }
            due("the IMAGE is gone", x.restore(), STATE);
        }
        String dukes = "2;01o;d90,d90;0109,1009,0101,1001";
        DebtRooms y = built(dukes);
        for (int debt = 0; debt < 4; debt++) {
            y.pay(debt);
        }
        due("all are PAID", y.count(4), 4);
        write(y, dukes);
        y.house();
        due("none is PAID", y.count(4), 0);
        for (int debt = 0; debt < 4; debt++) {
            due("debt(" + debt + ", 5)", y.debt(debt, 5), 0);
        }
    }

    private static void whats() {
        of("what of person() 0 to 8, kind of as() 0 to 4, what of door() 0 to 2, of debt() 0 to 5, of count() 0 to 12");
        DebtRooms x = built(LARGE);
        due("person(0, -1)", x.person(0, -1), OUTSIDE);
        due("person(0, 0)", x.person(0, 0), 0);
        due("person(0, 8)", x.person(0, 8), 0);
        due("person(0, 9)", x.person(0, 9), OUTSIDE);
        due("as(3, -1)", x.as(3, -1), OUTSIDE);
        due("as(3, 0)", x.as(3, 0), 3);
        due("as(3, 4)", x.as(3, 4), 3);
        due("as(3, 5)", x.as(3, 5), OUTSIDE);
        due("door(5, -1)", x.door(5, -1), OUTSIDE);
        due("door(5, 0)", x.door(5, 0), 5);
        due("door(5, 1)", x.door(5, 1), 0);
        due("door(5, 2)", x.door(5, 2), NONE);
        due("door(5, 3)", x.door(5, 3), OUTSIDE);
        due("debt(3, -1)", x.debt(3, -1), OUTSIDE);
        due("debt(3, 0)", x.debt(3, 0), 3);
        due("debt(3, 5)", x.debt(3, 5), 0);
        due("debt(3, 6)", x.debt(3, 6), OUTSIDE);
        due("count(-1)", x.count(-1), OUTSIDE);
        due("count(0)", x.count(0), 6);
        due("count(12)", x.count(12), 1);
        due("count(13)", x.count(13), OUTSIDE);
        due("count(-1), no HOUSE", new DebtRooms().count(-1), OUTSIDE);
        due("count(13), no HOUSE", new DebtRooms().count(13), OUTSIDE);
    }

    private static void howManyArePaid() {
        of("4 that are PAID, 5 SUMS of those that are not, 6 all PURSES");
        DebtRooms x = built("2;01o;d90,d90,p70,p20;0109,1008,0101,1003");
        int[][] rows = {{0, 21, 27}, {1, 12, 27}, {2, 4, 27}, {3, 3, 27}, {4, 0, 27}};
        for (int many = 0; many <= 4; many++) {
            for (int what = 4; what <= 6; what++) {
                due("count(" + what + "), " + many + " PAID", x.count(what), rows[many][what - 4]);
            }
            x.pay(many);
        }
        due("owe(2, 9)", x.owe(2, 9), 1);
        due("count(4), one not any more", x.count(4), 3);
        due("count(5), one not any more", x.count(5), 9);
        // What it costs a rich one more is in no purse then.
        DebtRooms rich = built("2;01o;r90,p00;0108");
        due("count(5), a RICH one", rich.count(5), 8);
        rich.pay(0);
        due("count(6), a RICH one", rich.count(6), 8);
        DebtRooms most = built("2;01o;p90,p90,p90,p90;0109,0109,0109,0109");
        due("count(5), the most", most.count(5), 36);
        due("count(6), the most at first", most.count(6), 36);
    }

    private static void tooManyDoors() {
        of("FULL: 999 were gone through");
        // This takes more than 512 calls, and what those answer is free: held to all the same.
        DebtRooms x = built("2;01o;p00,p00,r00;0101");
        for (int many = 1; many <= 998; many++) {
            x.go(0, 0);
        }
        due("the 999th", x.go(0, 0), 1);
        due("count(7)", x.count(7), 999);
        long before = x.digest();
        due("the 1000th", x.go(0, 0), FULL);
        due("the 1000th, of another one", x.go(1, 0), FULL);
        due("STATE goes ahead", x.go(2, 0), STATE);
        due("UNKNOWN goes ahead", x.go(3, 0), UNKNOWN);
        due("nothing has changed", x.digest(), before);
        due("image()", x.image(), 999);
        due("he may GO, as told", x.person(0, 4), 1);
    }

    private static void withoutAHouse() {
        of("UNKNOWN: key (0, 1; also without a HOUSE), person; STATE: no HOUSE");
        DebtRooms x = new DebtRooms();
        for (int key = -1; key <= 2; key++) {
            for (int person = -1; person <= 2; person++) {
                due("give(" + key + ", " + person + ")", x.give(key, person), UNKNOWN);
            }
        }
        due("go(0, 0)", x.go(0, 0), UNKNOWN);
        due("pay(0)", x.pay(0), UNKNOWN);
        due("earn(0, 1)", x.earn(0, 1), UNKNOWN);
        due("earn(0, 0)", x.earn(0, 0), UNKNOWN);
        due("owe(0, 1)", x.owe(0, 1), UNKNOWN);
        due("owe(0, 0)", x.owe(0, 0), UNKNOWN);
        due("person(0, 9)", x.person(0, 9), UNKNOWN);
        due("as(0, 5)", x.as(0, 5), UNKNOWN);
        due("door(0, 3)", x.door(0, 3), UNKNOWN);
        due("debt(0, 6)", x.debt(0, 6), UNKNOWN);
        due("way(0, 0, 0)", x.way(0, 0, 0), UNKNOWN);
        due("night(0, 5, 0)", x.night(0, 5, 0), UNKNOWN);
        due("cancel(0, 1)", x.cancel(0, 1), UNKNOWN);
        due("met(0, 1, 4, 0)", x.met(0, 1, 4, 0), UNKNOWN);
        due("see(0, true)", x.see(0, true), UNKNOWN);
        due("sound()", x.sound(), STATE);
        due("winters(1, 0, 0)", x.winters(1, 0, 0), STATE);
        due("winters(60, most, 2)", x.winters(60, MOST, 2), STATE);
        due("OUTSIDE goes ahead: times", x.winters(61, 0, 0), OUTSIDE);
        due("OUTSIDE goes ahead: seed", x.winters(1, -1, 0), OUTSIDE);
        due("OUTSIDE goes ahead: what", x.winters(1, 0, 3), OUTSIDE);
        due("image()", x.image(), STATE);
        due("restore()", x.restore(), STATE);
        due("forget()", x.forget(), 0);
        DebtRooms y = built(SMALL);
        due("give(-1, 0)", y.give(-1, 0), UNKNOWN);
        due("give(0, 1)", y.give(0, 1), 0);
        due("give(1, 0)", y.give(1, 0), 1);
        due("give(2, 0)", y.give(2, 0), UNKNOWN);
        due("give(0, -1)", y.give(0, -1), UNKNOWN);
        due("give(0, 2)", y.give(0, 2), UNKNOWN);
    }

    private static void howMuchIsEarned() {
        of("OUTSIDE: much (1 to 9); FULL: there would be more than 99");
        for (int much = 1; much <= 9; much++) {
            due("earn(0, " + much + ")", built(SMALL).earn(0, much), much);
            DebtRooms x = built(SMALL);
            earnUpTo(x, 1, 99 - much + 1);
            due("earn(1, " + much + "), 100", x.earn(1, much), FULL);
            due("his PURSE stays", x.person(1, 1), 99 - much + 1);
            DebtRooms y = built(SMALL);
            earnUpTo(y, 1, 99 - much);
            due("earn(1, " + much + "), 99", y.earn(1, much), 99);
        }
        DebtRooms z = built(SMALL);
        earnUpTo(z, 0, 99);
        for (int much : new int[] {LEAST, -1, 0, 10, MOST}) {
            due("earn(1, " + much + ")", z.earn(1, much), OUTSIDE);
            due("OUTSIDE goes ahead: earn(0, " + much + ")", z.earn(0, much), OUTSIDE);
            due("UNKNOWN goes ahead: earn(2, " + much + ")", z.earn(2, much), UNKNOWN);
        }
        due("earn(0, 1), 100", z.earn(0, 1), FULL);
        due("the other one still may", z.earn(1, 9), 9);
    }

    private static void anotherSum() {
        of("A DEBT is of another SUM (and not PAID) from now on: of which it was; OUTSIDE: sum (1 to 9)");
        DebtRooms x = built("2;01o;d90,p00;0105,0104");
        int was = 5;
        for (int sum = 1; sum <= 9; sum++) {
            due("owe(0, " + sum + ")", x.owe(0, sum), was);
            due("debt(0, 3)", x.debt(0, 3), sum);
            was = sum;
        }
        for (int sum : new int[] {LEAST, -1, 0, 10, MOST}) {
            due("owe(0, " + sum + ")", x.owe(0, sum), OUTSIDE);
            due("UNKNOWN goes ahead: owe(2, " + sum + ")", x.owe(2, sum), UNKNOWN);
        }
        due("debt(0, 3) stays", x.debt(0, 3), 9);
        due("the other DEBT stays", x.debt(1, 3), 4);
        x.pay(1);
        due("owe(1, 0), PAID", x.owe(1, 0), OUTSIDE);
        due("debt(1, 5), still PAID", x.debt(1, 5), 1);
        due("owe(1, 2), PAID", x.owe(1, 2), 4);
        due("debt(1, 5), not PAID", x.debt(1, 5), 0);
        due("the PURSES stay", x.person(0, 1) * 100 + x.person(1, 1), 504);
    }

    private static void theSameOne() {
        of("UNKNOWN: person, other, or they are the same");
        DebtRooms x = built(LARGE);
        for (int person = -1; person <= 4; person++) {
            for (int other = -1; other <= 4; other++) {
                boolean are = person >= 0 && person < 4 && other >= 0 && other < 4 && person != other;
                int got = x.met(person, other, 1, 1);
                due("met(" + person + ", " + other + ", 1, 1) names two", got == UNKNOWN ? 0 : 1, are ? 1 : 0);
                due("hours = 0", x.met(person, other, 0, 0), are ? OUTSIDE : UNKNOWN);
                due("what = 2", x.met(person, other, 1, 2), are ? OUTSIDE : UNKNOWN);
            }
        }
    }

    // ---- what is told of all

    private static void whatIsToldOfAll() {
        whatAnImageKeeps();
        whatAnImageDoesNotKeep();
        theLatestImage();
        noneWasKept();
        asLongsWrapping();
    }

    private static void whatAnImageKeeps() {
        of("An IMAGE keeps PURSES, ROOMS, KEYS, SUMS, which DEBTS are PAID, how many DOORS were gone through, SEEN");
        String text = "2;01o;d90,p00,p01;0105,1204";
        for (int change = 0; change < 10; change++) {
            DebtRooms x = built(text);
            x.see(0, true);
            x.go(1, 0);
            x.pay(0);
            x.give(1, 2);
            due("image()", x.image(), 1);
            long before = x.digest();
            switch (change) {
                case 0: x.earn(2, 5); break;
                case 1: x.go(1, 0); break;
                case 2: x.give(1, 1); break;
                case 3: x.owe(1, 9); break;
                case 4: x.owe(0, 5); break;
                case 5: x.go(2, 0); x.go(2, 0); break;
                case 6: x.see(0, false); break;
                case 7: x.forget(); break;
                case 8: x.go(1, 0); x.give(0, 1); x.go(1, 0); break;
                default: x.earn(1, 4); x.pay(1); break;
            }
            due("change " + change + " can be seen", x.digest() == before ? 0 : 1, 1);
            due("restore() of change " + change, x.restore(), 1);
            due("all is as it was, change " + change, x.digest(), before);
            due("person(0, 7)", x.person(0, 7), 0x3e0);
        }
        // What was seen comes back one by one, not only how much it was.
        DebtRooms y = built("2;01o;p00,p00;0103,0107");
        y.see(0, true);
        y.see(1, false);
        y.image();
        y.forget();
        y.see(1, true);
        y.see(1, true);
        y.restore();
        due("3 to 6", y.person(0, 7), 0x78);
    }

    private static void whatAnImageDoesNotKeep() {
        of("It goes on from the IMAGE (of THE PAGE and of how often a HOUSE was read it keeps nothing)");
        DebtRooms x = built(SMALL);
        write(x, SMALL);
        x.house();
        write(x, "2;");
        x.image();
        x.letter(48);
        due("restore()", x.restore(), 0);
        due("count(11)", x.count(11), 3);
        due("count(12)", x.count(12), 2);
        due("fault()", x.fault(), 3);
        x.blank();
        x.restore();
        due("count(11)", x.count(11), 0);
    }

    private static void theLatestImage() {
        of("An IMAGE is kept (one; the latest)");
        DebtRooms x = built(SMALL);
        x.earn(0, 1);
        due("image()", x.image(), 0);
        x.go(0, 0);
        x.earn(0, 2);
        due("image(), the latest", x.image(), 1);
        x.go(0, 0);
        x.earn(0, 4);
        due("restore()", x.restore(), 1);
        due("his PURSE", x.person(0, 1), 3);
        due("his ROOM", x.person(0, 2), 1);
        due("restore() again", x.restore(), 1);
        x.go(0, 0);
        x.earn(0, 5);
        due("restore(), it is kept still", x.restore(), 1);
        due("his PURSE", x.person(0, 1), 3);
    }

    private static void noneWasKept() {
        of("STATE: none was kept, or there is another HOUSE since");
        DebtRooms x = new DebtRooms();
        due("no HOUSE", x.restore(), STATE);
        due("image(), no HOUSE", x.image(), STATE);
        write(x, SMALL);
        x.house();
        due("the refused one was not kept", x.restore(), STATE);
        x.image();
        due("kept", x.restore(), 0);
        write(x, "2;01o;p00,p00;010");
        due("house(), refused", x.house(), STATE);
        due("there is no other HOUSE", x.restore(), 0);
        x.letter('1');
        due("house(), the same text", x.house(), 2);
        due("there is another HOUSE", x.restore(), STATE);
        due("and again", x.restore(), STATE);
        x.image();
        due("kept of this one", x.restore(), 0);
    }

    private static void asLongsWrapping() {
        of("31 times h, and it (as longs, wrapping)");
        digestIsAsTold(new DebtRooms(), "");
        digestIsAsTold(written("~"), "~");
        digestIsAsTold(written(LARGE), LARGE);
        digestIsAsTold(built(SMALL), "");
        // One, two and three hours are not alike here, nor nights of one, two and three doors.
        DebtRooms unlike = built("3;01o,02o,21o;h90,p01;0123,0114");
        metIs(unlike, 0, 1, 1, 1, 2);
        metIs(unlike, 0, 1, 2, 3, 4);
        metIs(unlike, 0, 1, 3, 7, 8);
        nightIs(unlike, 0, 1, 4, 0);
        nightIs(unlike, 0, 2, 7, 0, 2);
        nightIs(unlike, 0, 3, 7, 0, 0, 1);
        digestIsAsTold(unlike, "");
        DebtRooms x = built("2;01a,10b;b90,r31;0104,1013,0116");
        digestIsAsTold(x, "");
        x.go(0, 1);
        x.pay(2);
        x.see(1, true);
        write(x, "2;");
        digestIsAsTold(x, "2;");
    }

    /** In whole numbers without a bound; only in the end the rest that a long holds. */
    private static void digestIsAsTold(DebtRooms x, String page) {
        long got = x.digest();
        BigInteger h = BigInteger.valueOf(1223);
        for (int number : numbersOf(x, page)) {
            h = h.multiply(BigInteger.valueOf(31)).add(BigInteger.valueOf(number));
        }
        due("digest() is beyond a long before it wraps", h.bitLength() > 63 ? 1 : 0, 1);
        due("digest()", got, h.longValue());
    }

    private static List<Integer> numbersOf(DebtRooms x, String page) {
        List<Integer> told = new ArrayList<>();
        for (int person = 0; person < x.count(2); person++) {
            for (int what = 0; what <= 8; what++) {
                told.add(x.person(person, what));
            }
            for (int room = 0; room < x.count(0); room++) {
                told.add(x.way(person, room, 0));
                told.add(x.way(person, room, 10));
            }
            told.add(x.night(person, 2, 0));
            told.add(x.night(person, 2, 10));
            told.add(x.night(person, 2, 11));
        }
        for (int door = 0; door < x.count(1); door++) {
            for (int what = 0; what <= 2; what++) {
                told.add(x.door(door, what));
            }
        }
        for (int debt = 0; debt < x.count(3); debt++) {
            for (int what = 0; what <= 5; what++) {
                told.add(x.debt(debt, what));
            }
        }
        for (int room = 0; room < x.count(0); room++) {
            told.add(x.cancel(room, 0));
        }
        if (x.count(2) > 0) {
            told.add(x.sound());
            told.add(x.met(0, 1, 2, 0));
            told.add(x.met(0, 1, 2, 1));
        }
        for (char letter : page.toCharArray()) {
            told.add((int) letter);
        }
        for (int what = 0; what <= 12; what++) {
            told.add(x.count(what));
        }
        return told;
    }
}
