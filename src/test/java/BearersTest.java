/** Promises 24 to 29: how many bore a name, where it began, how likely a line dies. */
public final class BearersTest {
    private static final int[] NO_NUMBER = {-1, 40, Integer.MIN_VALUE, Integer.MAX_VALUE};

    public static void main(String[] args) {
        bothYearsCount();
        least();
        readableYears();
        most();
        nothingRead();
        twoBooks();
        bearers();
        bearersBad();
        began();
        first();
        howFar();
        letsCome();
        fewestStarts();
        leastSumStarts();
        starts();
        inAllSets();
        judge();
        judgeRefused();
        pace();
        paceNone();
        sonsByChance();
        generations();
        dies();
        Due.finish();
    }

    /** Places 0 to 2 at (0, 0), (3, 4) and (10, 0), each with a book of its number. */
    private static FamilyNames threePlaces() {
        FamilyNames x = Due.withWords("a", "b", "zzzzzz");
        x.place(0, 0);
        x.place(3, 4);
        x.place(10, 0);
        for (int p = 0; p < 3; p++) {
            Due.due("book " + p, x.book(p, 1600, 1663), p);
        }
        return x;
    }

    private static void bothYearsCount() {
        Due.terms("BEARERS of a NAME at a PLACE from a year to a year (both counted):");
        FamilyNames x = threePlaces();
        x.line(0, 1610, 0, 0);
        x.line(0, 1612, 1, 0);
        x.line(0, 1611, 2, 0);
        x.line(1, 1611, 0, 0);
        Due.due("both ends", x.bearers(0, 0, 1610, 1612, 0), 2);
        Due.due("one year less", x.bearers(0, 0, 1611, 1612, 0), 1);
        Due.due("one year less", x.bearers(0, 0, 1610, 1611, 0), 1);
        Due.due("between", x.bearers(0, 0, 1611, 1611, 0), 0);
        Due.due("one year", x.bearers(0, 0, 1610, 1610, 0), 1);
        Due.due("another name", x.bearers(2, 0, 1610, 1612, 0), 1);
        Due.due("another place", x.bearers(0, 1, 1610, 1612, 0), 1);
        Due.due("years", x.bearers(0, 0, 1610, 1612, 2), 3);
    }

    private static void least() {
        Due.terms("LEAST: WORTH of its LINES there then, summed, by 2, divided down.");
        FamilyNames x = threePlaces();
        int[] kinds = {1, 4, 4, 3, 0, 1, 2};
        int[] due = {0, 1, 1, 1, 2, 3, 4};
        for (int i = 0; i < kinds.length; i++) {
            x.line(0, 1610 + i, i % 2, kinds[i]);
            Due.due("least of " + (i + 1), x.bearers(1, 0, 1600, 1663, 0), due[i]);
        }
    }

    private static void readableYears() {
        Due.terms("MOST: with R years of these (of any BOOK of the PLACE, BOOK by BOOK) that can be read,");
        FamilyNames x = threePlaces();
        x.book(0, 1660, 1669);
        Due.due("the books' years", x.bearers(0, 0, 1500, 1899, 2), 74);
        Due.due("the one alone", x.bearers(0, 0, 1590, 1609, 2), 10);
        Due.due("the other alone", x.bearers(0, 0, 1664, 1680, 2), 6);
        Due.due("both", x.bearers(0, 0, 1663, 1664, 2), 3);
        Due.due("ahead of them", x.bearers(0, 0, 1500, 1599, 2), 0);
        Due.due("behind them", x.bearers(0, 0, 1670, 1899, 2), 0);
        Due.due("another place", x.bearers(0, 1, 1500, 1899, 2), 64);
        x.hole(0, 1600, true);
        x.hole(0, 1663, true);
        x.hole(3, 1665, true);
        Due.due("without holes", x.bearers(0, 0, 1500, 1899, 2), 71);
        Due.due("without holes", x.bearers(0, 0, 1663, 1664, 2), 2);
        Due.due("whatever the name is", x.bearers(2, 0, 1500, 1899, 2), 71);
    }

    private static void most() {
        Due.terms("T years asked for: WORTH, summed, times T, by 2 R, divided up;");
        FamilyNames x = threePlaces();
        x.line(0, 1600, 0, 0);
        x.line(0, 1602, 0, 1);
        Due.due("3 * 1 / 2, up", x.bearers(0, 0, 1602, 1602, 1), 1);
        Due.due("3 * 20 / 20", x.bearers(0, 0, 1590, 1609, 1), 3);
        Due.due("3 * 21 / 20, up", x.bearers(0, 0, 1589, 1609, 1), 4);
        Due.due("3 * 26 / 20, up", x.bearers(0, 0, 1584, 1609, 1), 4);
        Due.due("3 * 27 / 20, up", x.bearers(0, 0, 1583, 1609, 1), 5);
        x.hole(0, 1601, true);
        x.hole(0, 1603, true);
        Due.due("3 * 4 / 4", x.bearers(0, 0, 1600, 1603, 1), 3);
        Due.due("none of the name", x.bearers(2, 0, 1600, 1603, 1), 0);
        Due.due("all years", x.bearers(0, 0, 1500, 1899, 1), (3 * 400 + 123) / 124);
        FamilyNames y = Due.withWords("a");
        y.place(0, 0);
        y.book(0, 1700, 1763);
        for (int k = 0; k < 40; k++) {
            y.line(0, 1700, 0, 0);
        }
        for (int year = 1701; year < 1764; year++) {
            y.hole(0, year, true);
        }
        Due.due("forty lines of one year, 400 years", y.bearers(0, 0, 1500, 1899, 1), 16000);
    }

    private static void nothingRead() {
        Due.terms("NONE, if R is 0 (LEAST 0 then).");
        FamilyNames x = threePlaces();
        x.line(0, 1600, 0, 0);
        x.hole(0, 1601, true);
        x.place(9, 9);
        int[][] nothing = {{0, 1601, 1601}, {0, 1500, 1599}, {0, 1664, 1899}, {3, 1500, 1899}};
        for (int[] a : nothing) {
            Due.due("most", x.bearers(0, a[0], a[1], a[2], 1), FamilyNames.NONE);
            Due.due("least", x.bearers(0, a[0], a[1], a[2], 0), 0);
            Due.due("R", x.bearers(0, a[0], a[1], a[2], 2), 0);
        }
        Due.due("read, but none bore it", x.bearers(2, 0, 1600, 1602, 1), 0);
        Due.due("R is 1", x.bearers(0, 0, 1601, 1602, 1), 0);
    }

    private static void twoBooks() {
        Due.terms("(A year of two BOOKS counts twice in R; T is then at least R.)");
        FamilyNames x = threePlaces();
        x.book(0, 1600, 1609);
        x.line(0, 1600, 0, 0);
        x.line(3, 1600, 0, 0);
        x.line(3, 1601, 0, 1);
        Due.due("twice", x.bearers(0, 0, 1600, 1604, 2), 10);
        Due.due("5 * 10 / 20, up", x.bearers(0, 0, 1600, 1604, 1), 3);
        Due.due("never below the least", x.bearers(0, 0, 1600, 1604, 0), 2);
        x.hole(3, 1602, true);
        Due.due("a hole of one", x.bearers(0, 0, 1600, 1604, 2), 9);
        Due.due("T above R: 5 * 15 / 18, up", x.bearers(0, 0, 1590, 1604, 1), 5);
        FamilyNames eight = Due.withWords("a");
        eight.place(0, 0);
        for (int b = 0; b < 8; b++) {
            eight.book(0, 1700, 1763);
            eight.line(b, 1700, 0, 0);
        }
        Due.due("eight books", eight.bearers(0, 0, 1700, 1763, 2), 512);
        Due.due("eight books", eight.bearers(0, 0, 1700, 1763, 1), 8);
        Due.due("eight books", eight.bearers(0, 0, 1700, 1763, 0), 8);
        Due.due("all years", eight.bearers(0, 0, 1500, 1899, 1), 8);
    }

    private static void bearers() {
        Due.promise(24, "BEARERS of the NAME of a SPELLING at a PLACE: LEAST (what 0), MOST (1), R (2).");
        FamilyNames x = threePlaces();
        x.line(0, 1600, 0, 0);
        x.line(0, 1601, 1, 1);
        for (int s = 0; s < 2; s++) {
            Due.due("least by " + s, x.bearers(s, 0, 1600, 1601, 0), 1);
            Due.due("most by " + s, x.bearers(s, 0, 1600, 1601, 1), 2);
            Due.due("R by " + s, x.bearers(s, 0, 1600, 1601, 2), 2);
        }
        Due.due("another name", x.bearers(2, 0, 1600, 1601, 0), 0);
        Due.tell(x, "other 0;drop 0;");
        Due.due("by the rules that hold", x.bearers(2, 0, 1600, 1601, 1), 2);
        Due.promise(24, "NONE (1).");
        for (int what = 0; what < 3; what++) {
            Due.due("what " + what, x.bearers(0, 0, 1500, 1501, what), what == 1 ? FamilyNames.NONE : 0);
        }
    }

    private static void bearersBad() {
        Due.promise(24, "BAD: also years not 1500 to 1899, the second below the first;");
        FamilyNames x = threePlaces();
        Due.due("the first year", x.bearers(0, 0, 1500, 1500, 1), FamilyNames.NONE);
        Due.due("the last year", x.bearers(0, 0, 1899, 1899, 1), FamilyNames.NONE);
        Due.due("all years", x.bearers(0, 0, 1500, 1899, 1), 0);
        int[][] bad = {{3, 0, 1600, 1600}, {0, 3, 1600, 1600}, {0, 0, 1499, 1600}, {0, 0, 1600, 1900},
            {0, 0, 1601, 1600}, {0, 0, 1500, 1499}, {0, 0, 1900, 1900}, {0, 0, 1499, 1499}, {0, 0, 1499, 1900},
            {0, 0, Integer.MIN_VALUE, Integer.MAX_VALUE}, {0, 0, Integer.MAX_VALUE, Integer.MIN_VALUE},
            {0, 0, 1600, Integer.MIN_VALUE}};
        for (int[] a : bad) {
            for (int what = 0; what < 3; what++) {
                Due.due("bearers " + a[0] + " " + a[1] + " " + a[2] + " " + a[3] + " " + what,
                    x.bearers(a[0], a[1], a[2], a[3], what), FamilyNames.BAD);
            }
        }
        for (int v : NO_NUMBER) {
            Due.due("spelling " + v, x.bearers(v, 0, 1600, 1600, 0), FamilyNames.BAD);
            Due.due("place " + v, x.bearers(0, v, 1600, 1600, 0), FamilyNames.BAD);
            Due.due("what " + v, x.bearers(0, 0, 1600, 1600, v), FamilyNames.BAD);
        }
        Due.due("what 3", x.bearers(0, 0, 1600, 1600, 3), FamilyNames.BAD);
        Due.due("bad ahead of none", x.bearers(0, 0, 1500, 1501, 3), FamilyNames.BAD);
    }

    private static void began() {
        Due.terms("BEGAN: for a NAME at each PLACE with LINES of it (COPIED ones do not count) the FIRST year.");
        FamilyNames x = threePlaces();
        x.line(0, 1605, 0, 3);
        Due.due("copied ones do not count", x.first(0, 0), FamilyNames.NONE);
        Due.due("copied ones do not count", x.starts(0, 2), 0);
        int[] kinds = {4, 2, 1, 0};
        for (int i = 0; i < kinds.length; i++) {
            x.line(0, 1620 - i, i % 2, kinds[i]);
            Due.due("kind " + kinds[i], x.first(0, 0), 1620 - i);
        }
        x.line(0, 1650, 0, 0);
        Due.due("not a later one", x.first(1, 0), 1617);
        x.book(0, 1550, 1600);
        x.line(3, 1599, 0, 0);
        Due.due("of another book", x.first(0, 0), 1599);
        Due.due("of another place", x.first(0, 1), FamilyNames.NONE);
        Due.due("of another name", x.first(2, 0), FamilyNames.NONE);
    }

    private static void first() {
        FamilyNames x = threePlaces();
        x.line(1, 1610, 1, 0);
        Due.promise(25, "FIRST of the NAME of a SPELLING at a PLACE.");
        Due.due("its own", x.first(1, 1), 1610);
        Due.due("of its name", x.first(0, 1), 1610);
        Due.promise(25, "BAD;");
        for (int v : NO_NUMBER) {
            Due.due("spelling " + v, x.first(v, 1), FamilyNames.BAD);
            Due.due("place " + v, x.first(0, v), FamilyNames.BAD);
        }
        Due.due("spelling 3", x.first(3, 1), FamilyNames.BAD);
        Due.due("place 3", x.first(0, 3), FamilyNames.BAD);
        Due.promise(25, "NONE.");
        Due.due("no lines there", x.first(0, 0), FamilyNames.NONE);
        Due.due("no lines of it", x.first(2, 1), FamilyNames.NONE);
        Due.due("bad ahead of none", x.first(3, 0), FamilyNames.BAD);
    }

    /** Two places with a first line each; whether the first lets the other one come. */
    private static int comes(int[] spots, int years, int miles) {
        FamilyNames x = Due.withWords("a");
        x.place(spots[0], spots[1]);
        x.place(spots[2], spots[3]);
        x.book(0, 1500, 1563);
        x.line(0, 1500, 0, 0);
        x.book(1, 1500 + years, 1500 + years);
        x.line(1, 1500 + years, 0, 0);
        Due.due("miles", Due.tell(x, "miles " + miles + ";"), 1);
        return x.judge(0, 1);
    }

    private static void howFar() {
        Due.terms("HOW FAR: the differences of x and y, without signs, summed.");
        int[][] spots = {{3, 4, 5, 9}, {5, 9, 3, 4}, {3, 9, 5, 4}, {5, 4, 3, 9}};
        for (int[] spot : spots) {
            Due.due("7 far, 6 years", comes(spot, 6, 10), 0);
            Due.due("7 far, 7 years", comes(spot, 7, 10), 1);
        }
        Due.due("198 far, 98 years", comes(new int[] {0, 99, 99, 0}, 98, 20), 0);
        Due.due("198 far, 99 years", comes(new int[] {0, 99, 99, 0}, 99, 20), 1);
        Due.due("0 far", comes(new int[] {7, 7, 7, 7}, 0, 1), 1);
    }

    private static void letsCome() {
        Due.terms("A PLACE lets another one come, if FIRST of it and HOW FAR times 10 by miles (divided up)"
            + " is FIRST of the other one at most.");
        int[] far = {3, 4, 5, 9};
        Due.due("70 by 5 is 14, 13 years", comes(far, 13, 5), 0);
        Due.due("70 by 5 is 14, 14 years", comes(far, 14, 5), 1);
        Due.due("70 by 4 is 18, 17 years", comes(far, 17, 4), 0);
        Due.due("70 by 4 is 18, 18 years", comes(far, 18, 4), 1);
        Due.due("70 by 1 is 70, 69 years", comes(far, 69, 1), 0);
        Due.due("70 by 1 is 70, 70 years", comes(far, 70, 1), 1);
        Due.due("70 by 20 is 4, 3 years", comes(far, 3, 20), 0);
        Due.due("70 by 20 is 4, 4 years", comes(far, 4, 20), 1);
        Due.due("one spot, one year", comes(new int[] {1, 1, 1, 1}, 0, 20), 1);
    }

    private static void startsAre(FamilyNames x, int s, int... due) {
        for (int what = 0; what < 4; what++) {
            Due.due("starts(" + s + ", " + what + ")", x.starts(s, what), due[what]);
        }
    }

    private static void fewestStarts() {
        Due.terms("STARTS: the fewest PLACES (with FIRST) that are so, or let them come, all;");
        FamilyNames x = threePlaces();
        startsAre(x, 0, 0, 0, 0, 0);
        x.line(0, 1600, 0, 0);
        startsAre(x, 0, 1, 1, 1, 1);
        startsAre(x, 2, 0, 0, 0, 0);
        // 7 times 10 by 5 is 14 years.
        x.line(1, 1614, 1, 0);
        startsAre(x, 0, 1, 1, 3, 1);
        Due.tell(x, "miles 4;");
        // 70 by 4 is 18 when divided up.
        startsAre(x, 0, 2, 3, 3, 3);
        x.again(1, 2);
        x.line(1, 1618, 0, 0);
        startsAre(x, 0, 1, 1, 3, 1);
        x.line(2, 1618, 0, 3);
        startsAre(x, 0, 1, 1, 3, 1);
        x.line(2, 1618, 0, 4);
        startsAre(x, 0, 2, 5, 7, 5);
        Due.tell(x, "miles 20;");
        startsAre(x, 0, 1, 1, 7, 1);
        FamilyNames eight = Due.withWords("a");
        for (int p = 0; p < 8; p++) {
            eight.place(10 * p, 0);
            eight.book(p, 1700, 1700);
            eight.line(p, 1700, 0, 0);
        }
        startsAre(eight, 0, 8, 255, 255, 255);
    }

    /** Places 0 at (7, 7), 1 and 2 at (0, 0), 3 at (50, 50); the name is at 1, 2 and 3 in 1700. */
    private static FamilyNames twins() {
        FamilyNames x = Due.withWords("a");
        x.place(7, 7);
        x.place(0, 0);
        x.place(0, 0);
        x.place(50, 50);
        for (int p = 0; p < 4; p++) {
            x.book(p, 1700, 1763);
        }
        for (int p = 1; p < 4; p++) {
            x.line(p, 1700, 0, 0);
        }
        return x;
    }

    private static void leastSumStarts() {
        Due.terms("all; of several the least sum of 2 to the number of each.");
        FamilyNames x = twins();
        Due.due("1 and 3, not 2 and 3", x.starts(0, 1), 10);
        x.line(0, 1763, 0, 0);
        Due.due("still, though 0 has a less number", x.starts(0, 1), 10);
        // One of 0 and 1, and one of 2 and 3, at two spots: 0 and 2 have the least sum.
        FamilyNames pairs = Due.withWords("a");
        for (int p = 0; p < 4; p++) {
            pairs.place(p / 2 * 90, 0);
            pairs.book(p, 1700, 1763);
            pairs.line(p, 1700, 0, 0);
        }
        Due.due("0 and 2", pairs.starts(0, 1), 5);
        Due.due("none is in all", pairs.starts(0, 3), 0);
        FamilyNames spot = Due.withWords("a");
        for (int p = 0; p < 8; p++) {
            spot.place(5, 5);
            spot.book(p, 1700, 1763);
            spot.line(p, 1700, 0, 0);
        }
        Due.due("of eight the first", spot.starts(0, 1), 1);
    }

    private static void starts() {
        FamilyNames x = twins();
        FamilyNames none = Due.withWords("a");
        Due.promise(26, "STARTS of the NAME of a SPELLING: how many (what 0),");
        Due.due("two", x.starts(0, 0), 2);
        Due.due("none", none.starts(0, 0), 0);
        Due.promise(26, "those (bits, 1),");
        Due.due("1 and 3", x.starts(0, 1), 10);
        Due.due("none", none.starts(0, 1), 0);
        Due.promise(26, "PLACES with FIRST (bits, 2),");
        Due.due("1, 2 and 3", x.starts(0, 2), 14);
        Due.due("none", none.starts(0, 2), 0);
        Due.promise(26, "BAD.");
        for (int v : NO_NUMBER) {
            Due.due("spelling " + v, x.starts(v, 0), FamilyNames.BAD);
            Due.due("what " + v, x.starts(0, v), FamilyNames.BAD);
        }
        Due.due("spelling 1", x.starts(1, 0), FamilyNames.BAD);
        Due.due("what 4", x.starts(0, 4), FamilyNames.BAD);
    }

    private static void inAllSets() {
        Due.promise(26, "PLACES that are in all sets that are as few (bits, 3).");
        FamilyNames x = twins();
        Due.due("3, and 1 or 2", x.starts(0, 3), 8);
        x.again(2, 0);
        x.line(1, 1700, 0, 0);
        Due.due("another line changes nothing", x.starts(0, 3), 8);
        FamilyNames one = threePlaces();
        one.line(0, 1600, 0, 0);
        one.line(1, 1663, 0, 0);
        Due.due("the only set", one.starts(0, 3), 1);
        Due.due("none: the set of none", one.starts(2, 3), 0);
        FamilyNames spot = Due.withWords("a");
        spot.place(1, 1);
        spot.place(1, 1);
        for (int p = 0; p < 2; p++) {
            spot.book(p, 1600, 1600);
            spot.line(p, 1600, 0, 0);
        }
        Due.due("either one", spot.starts(0, 3), 0);
    }

    private static void judge() {
        Due.promise(27, "Whether a set of PLACES (bits) lets all of a NAME come (1, 0).");
        FamilyNames x = twins();
        x.line(0, 1763, 0, 0);
        for (int set : new int[] {10, 12, 14, 15, 11, 13}) {
            Due.due("judge " + set, x.judge(0, set), 1);
        }
        for (int set : new int[] {0, 1, 2, 4, 6, 8, 9, 3, 5, 7}) {
            Due.due("judge " + set, x.judge(0, set), 0);
        }
        FamilyNames none = Due.withWords("a");
        Due.due("no places, none to come", none.judge(0, 0), 1);
        none.place(1, 1);
        Due.due("a place, none to come", none.judge(0, 0), 1);
        FamilyNames miles = threePlaces();
        miles.line(0, 1600, 0, 0);
        miles.line(1, 1614, 1, 0);
        Due.due("miles 5", miles.judge(1, 1), 1);
        Due.due("the later one", miles.judge(1, 2), 0);
        Due.tell(miles, "miles 4;");
        Due.due("miles 4", miles.judge(1, 1), 0);
    }

    private static void judgeRefused() {
        Due.promise(27, "BAD: also PLACES that there are not;");
        FamilyNames x = threePlaces();
        for (int set : new int[] {8, 9, 15, 16, 128, 256, 1 << 30, -1, -8, Integer.MIN_VALUE, Integer.MAX_VALUE}) {
            Due.due("set " + set, x.judge(0, set), FamilyNames.BAD);
        }
        for (int v : NO_NUMBER) {
            Due.due("spelling " + v, x.judge(v, 0), FamilyNames.BAD);
        }
        Due.due("spelling 3", x.judge(3, 0), FamilyNames.BAD);
        FamilyNames none = Due.withWords("a");
        Due.due("no places", none.judge(0, 1), FamilyNames.BAD);
        FamilyNames eight = Due.withWords("a");
        for (int p = 0; p < 8; p++) {
            eight.place(p, p);
            eight.book(p, 1600, 1600);
            eight.line(p, 1600, 0, 0);
        }
        Due.due("all eight", eight.judge(0, 255), 1);
        Due.due("a ninth", eight.judge(0, 256), FamilyNames.BAD);
        Due.due("a ninth", eight.judge(0, 511), FamilyNames.BAD);
        Due.promise(27, "STATE: one of them has no FIRST.");
        Due.due("no lines", x.judge(0, 1), FamilyNames.STATE);
        x.line(0, 1600, 0, 0);
        x.line(1, 1600, 0, 3);
        Due.due("it has", x.judge(0, 1), 1);
        Due.due("one has none", x.judge(0, 5), FamilyNames.STATE);
        Due.due("copied alone", x.judge(0, 3), FamilyNames.STATE);
        Due.due("of another name", x.judge(2, 1), FamilyNames.STATE);
        Due.due("bad ahead of it", x.judge(0, 12), FamilyNames.BAD);
    }

    private static void pace() {
        Due.promise(28, "The least miles (1 to 20) with which one START alone would do.");
        FamilyNames x = threePlaces();
        x.line(0, 1620, 0, 0);
        Due.due("alone", x.pace(0), 1);
        x.line(1, 1624, 1, 0);
        // 70 by 18 is 4 when divided up, by 17 it is 5.
        Due.due("two", x.pace(0), 18);
        Due.due("two, by the name", x.pace(1), 18);
        Due.tell(x, "miles 1;");
        Due.due("whatever miles hold", x.pace(0), 18);
        x.line(2, 1625, 0, 0);
        Due.due("100 by 20 is 5", x.pace(0), 20);
        FamilyNames slow = threePlaces();
        slow.book(1, 1670, 1670);
        slow.line(0, 1600, 0, 0);
        slow.line(3, 1670, 0, 0);
        Due.due("70 by 1 is 70", slow.pace(0), 1);
        slow.line(1, 1663, 0, 0);
        Due.due("70 by 2 is 35", slow.pace(0), 2);
        FamilyNames spot = Due.withWords("a");
        spot.place(1, 1);
        spot.place(1, 1);
        for (int p = 0; p < 2; p++) {
            spot.book(p, 1600, 1600);
            spot.line(p, 1600, 0, 0);
        }
        Due.due("one spot", spot.pace(0), 1);
        Due.promise(28, "BAD;");
        for (int v : NO_NUMBER) {
            Due.due("spelling " + v, x.pace(v), FamilyNames.BAD);
        }
        Due.due("spelling 3", x.pace(3), FamilyNames.BAD);
    }

    private static void paceNone() {
        Due.promise(28, "NONE: none up to 20,");
        FamilyNames x = threePlaces();
        x.line(0, 1620, 0, 0);
        x.line(1, 1623, 0, 0);
        Due.due("70 by 20 is 4", x.pace(0), FamilyNames.NONE);
        FamilyNames far = Due.withWords("a");
        far.place(0, 0);
        far.place(42, 0);
        far.book(0, 1600, 1663);
        far.book(1, 1600, 1663);
        far.line(0, 1600, 0, 0);
        far.line(1, 1620, 0, 0);
        Due.due("420 by 21 is 20, but that is too fast", far.pace(0), FamilyNames.NONE);
        Due.promise(28, "or no FIRST.");
        Due.due("no lines of it", x.pace(2), FamilyNames.NONE);
        x.line(2, 1600, 2, 3);
        Due.due("copied alone", x.pace(2), FamilyNames.NONE);
    }

    private static void diesAre(String sons, long... due) {
        FamilyNames x = new FamilyNames();
        Due.due(sons, Due.tell(x, sons), 1);
        for (int g = 1; g <= 3; g++) {
            Due.due(sons + " numerator " + g, x.dies(g, 0), due[2 * g - 2]);
            Due.due(sons + " denominator " + g, x.dies(g, 1), due[2 * g - 1]);
        }
    }

    private static void sonsByChance() {
        Due.terms("DIES: with sons by chance (0, 1, 2, 3 by their NUMBERS):");
        diesAre("sons 1 2 3 3;", 1, 9, 307, 2187, 4700755729L, 31381059609L);
        diesAre("sons 3 2 1 0;", 1, 2, 17, 24, 2833, 3456);
        diesAre("sons 1 0 1 0;", 1, 2, 5, 8, 89, 128);
        diesAre("sons 1 1 0 0;", 1, 2, 3, 4, 7, 8);
        diesAre("sons 1 0 0 1;", 1, 2, 9, 16, 4825, 8192);
    }

    private static void generations() {
        Due.terms("the chance that a man has no man's line behind g generations (1 to 3): as a fraction.");
        FamilyNames x = new FamilyNames();
        long[] numerators = {1, 85, 24811501L}, denominators = {4, 256, 67108864L};
        for (int g = 1; g <= 3; g++) {
            Due.due("numerator " + g, x.dies(g, 0), numerators[g - 1]);
            Due.due("denominator " + g, x.dies(g, 1), denominators[g - 1]);
        }
        Due.due("generations 0", x.dies(0, 0), FamilyNames.BAD);
        Due.due("generations 4", x.dies(4, 0), FamilyNames.BAD);
    }

    private static void dies() {
        FamilyNames x = new FamilyNames();
        Due.promise(29, "DIES: 0 the numerator, 1 the denominator,");
        Due.due("numerator", x.dies(2, 0), 85);
        Due.due("denominator", x.dies(2, 1), 256);
        Due.due("asked again, after another", x.dies(1, 0), 1);
        Due.due("asked again, after another", x.dies(2, 0), 85);
        Due.promise(29, "in lowest terms (above 0).");
        diesAre("sons 2 2 2 2;", 1, 4, 85, 256, 24811501L, 67108864L);
        diesAre("sons 2 4 2 0;", 1, 4, 25, 64, 7921, 16384);
        diesAre("sons 9 0 0 0;", 1, 1, 1, 1, 1, 1);
        diesAre("sons 0 0 0 9;", 0, 1, 0, 1, 0, 1);
        diesAre("sons 0 9 0 0;", 0, 1, 0, 1, 0, 1);
        diesAre("sons 0 1 0 0;", 0, 1, 0, 1, 0, 1);
        diesAre("sons 1 0 0 8;", 1, 9, 737, 6561, 285632060905L, 2541865828329L);
        diesAre("sons 8 1 0 0;", 8, 9, 80, 81, 728, 729);
        Due.promise(29, "BAD.");
        for (int v : NO_NUMBER) {
            Due.due("generations " + v, x.dies(v, 0), FamilyNames.BAD);
            Due.due("what " + v, x.dies(1, v), FamilyNames.BAD);
        }
        Due.due("generations 0", x.dies(0, 1), FamilyNames.BAD);
        Due.due("generations 4", x.dies(4, 1), FamilyNames.BAD);
        Due.due("what 2", x.dies(1, 2), FamilyNames.BAD);
    }
}
