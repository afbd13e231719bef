/** Promises 15 to 23: places, books, holes, lines, days, readings. */
public final class BooksTest {
    public static void main(String[] args) {
        placesAreNumbered();
        place();
        booksAreNumbered();
        book();
        holesAreLost();
        hole();
        holeState();
        bookOf();
        latestYear();
        linesAreNumbered();
        lineParts();
        kinds();
        line();
        lineState();
        manyLines();
        day();
        readAgain();
        again();
        manyReadings();
        lineOf();
        asKnown();
        known();
        latestReading();
        Due.finish();
    }

    private static FamilyNames oneBook() {
        FamilyNames x = Due.withWords("a", "b", "zzzzzz");
        x.place(5, 5);
        Due.due("book", x.book(0, 1600, 1663), 0);
        return x;
    }

    private static void placesAreNumbered() {
        Due.terms("PLACES (8) are numbered as they come:");
        FamilyNames x = new FamilyNames();
        for (int p = 0; p < 8; p++) {
            Due.due("place " + p, x.place(9 - p, p), p);
        }
        Due.due("the ninth", x.place(0, 0), FamilyNames.FULL);
        Due.due("eight", x.count(1), 8);
        Due.terms("x, y (0 to 99).");
        FamilyNames y = new FamilyNames();
        int[] bad = {-1, 100, -100, Integer.MIN_VALUE, Integer.MAX_VALUE};
        for (int v : bad) {
            Due.due("x is " + v, y.place(v, 0), FamilyNames.BAD);
            Due.due("y is " + v, y.place(0, v), FamilyNames.BAD);
        }
        Due.due("none came", y.count(1), 0);
        Due.due("corner", y.place(0, 0), 0);
        Due.due("corner", y.place(0, 99), 1);
        Due.due("corner", y.place(99, 0), 2);
        Due.due("corner", y.place(99, 99), 3);
    }

    private static void place() {
        Due.promise(15, "A PLACE: its number.");
        FamilyNames x = new FamilyNames();
        Due.due("the first", x.place(99, 0), 0);
        Due.due("another one at that spot", x.place(99, 0), 1);
        Due.promise(15, "BAD;");
        Due.due("x", x.place(100, 0), FamilyNames.BAD);
        Due.due("y", x.place(0, -1), FamilyNames.BAD);
        Due.due("two", x.count(1), 2);
        Due.promise(15, "FULL.");
        for (int p = 2; p < 8; p++) {
            Due.due("place " + p, x.place(p, p), p);
        }
        Due.due("full", x.place(50, 50), FamilyNames.FULL);
        Due.due("bad ahead of full", x.place(0, 100), FamilyNames.BAD);
        Due.due("eight", x.count(1), 8);
    }

    private static void booksAreNumbered() {
        Due.terms("BOOKS (8) are numbered as they come:");
        FamilyNames x = new FamilyNames();
        x.place(1, 1);
        x.place(2, 2);
        for (int b = 0; b < 8; b++) {
            Due.due("book " + b, x.book(b % 2, 1890 - b, 1890), b);
        }
        Due.due("the ninth", x.book(0, 1600, 1601), FamilyNames.FULL);
        for (int b = 0; b < 8; b++) {
            Due.due("place of " + b, x.bookOf(b, 0), b % 2);
            Due.due("from of " + b, x.bookOf(b, 1), 1890 - b);
        }
        Due.terms("of a PLACE, years from, to (1500 to 1899, at most 64 years);");
        FamilyNames y = new FamilyNames();
        Due.due("no place yet", y.book(0, 1600, 1601), FamilyNames.BAD);
        y.place(1, 1);
        int[][] bad = {{-1, 1600, 1601}, {1, 1600, 1601}, {8, 1600, 1601}, {0, 1499, 1501}, {0, 1499, 1499},
            {0, 1899, 1900}, {0, 1900, 1900}, {0, 1601, 1600}, {0, 1600, 1664}, {0, 1500, 1564}, {0, 1835, 1899},
            {0, 1500, 1899}, {0, Integer.MIN_VALUE, Integer.MAX_VALUE}, {0, Integer.MAX_VALUE, Integer.MIN_VALUE},
            {0, 1600, Integer.MIN_VALUE}, {0, Integer.MIN_VALUE, 1600}, {Integer.MIN_VALUE, 1600, 1601}};
        for (int[] a : bad) {
            Due.due("book " + a[0] + " " + a[1] + " " + a[2], y.book(a[0], a[1], a[2]), FamilyNames.BAD);
        }
        Due.due("the first 64 years", y.book(0, 1500, 1563), 0);
        Due.due("the last 64 years", y.book(0, 1836, 1899), 1);
        Due.due("the first year", y.book(0, 1500, 1500), 2);
        Due.due("the last year", y.book(0, 1899, 1899), 3);
    }

    private static void book() {
        Due.promise(16, "A BOOK: its number.");
        FamilyNames x = new FamilyNames();
        x.place(1, 1);
        Due.due("the first", x.book(0, 1600, 1610), 0);
        Due.due("the same years again", x.book(0, 1600, 1610), 1);
        Due.promise(16, "BAD;");
        Due.due("no place", x.book(1, 1600, 1610), FamilyNames.BAD);
        Due.due("years", x.book(0, 1600, 1664), FamilyNames.BAD);
        Due.due("two", x.count(2), 2);
        Due.promise(16, "FULL.");
        for (int b = 2; b < 8; b++) {
            Due.due("book " + b, x.book(0, 1600, 1600 + b), b);
        }
        Due.due("full", x.book(0, 1600, 1601), FamilyNames.FULL);
        Due.due("bad ahead of full", x.book(0, 1600, 1599), FamilyNames.BAD);
        Due.due("no place, ahead of full", x.book(1, 1600, 1601), FamilyNames.BAD);
        Due.due("eight", x.count(2), 8);
    }

    private static void holesAreLost() {
        Due.terms("HOLES: years of it that are lost.");
        FamilyNames x = oneBook();
        x.book(0, 1600, 1663);
        for (int i = 0; i < 64; i++) {
            Due.due("holes", x.bookOf(0, 3), i);
            Due.due("hole " + (1600 + i), x.hole(0, 1600 + i, true), 0);
        }
        Due.due("all lost", x.bookOf(0, 3), 64);
        Due.due("another book's are not", x.bookOf(1, 3), 0);
        Due.due("no line there", x.line(0, 1632, 0, 0), FamilyNames.STATE);
        Due.due("a line of the other book", x.line(1, 1632, 0, 0), 0);
    }

    private static void hole() {
        FamilyNames x = oneBook();
        Due.promise(17, "A year of a BOOK is a HOLE, or not:");
        Due.due("first year", x.hole(0, 1600, true), 0);
        Due.due("last year", x.hole(0, 1663, true), 0);
        Due.due("two", x.bookOf(0, 3), 2);
        Due.due("not any more", x.hole(0, 1663, false), 1);
        Due.due("one", x.bookOf(0, 3), 1);
        Due.due("a line can come", x.line(0, 1663, 0, 0), 0);
        Due.due("but not here", x.line(0, 1600, 0, 0), FamilyNames.STATE);
        Due.promise(17, "whether it was (1, 0).");
        Due.due("it was not", x.hole(0, 1632, true), 0);
        Due.due("it was", x.hole(0, 1632, true), 1);
        Due.due("it was", x.hole(0, 1632, false), 1);
        Due.due("it was not", x.hole(0, 1632, false), 0);
        Due.promise(17, "BAD;");
        for (int year : new int[] {1599, 1664, 1500, 1899, 0, -1, Integer.MIN_VALUE, Integer.MAX_VALUE}) {
            Due.due("year " + year, x.hole(0, year, true), FamilyNames.BAD);
            Due.due("year " + year, x.hole(0, year, false), FamilyNames.BAD);
        }
        for (int b : new int[] {1, -1, 8, Integer.MIN_VALUE, Integer.MAX_VALUE}) {
            Due.due("book " + b, x.hole(b, 1601, true), FamilyNames.BAD);
        }
    }

    private static void holeState() {
        Due.promise(17, "STATE: that year has LINES.");
        FamilyNames x = oneBook();
        x.book(0, 1600, 1620);
        Due.due("a line", x.line(0, 1610, 0, 3), 0);
        Due.due("has lines", x.hole(0, 1610, true), FamilyNames.STATE);
        Due.due("has lines, no hole", x.hole(0, 1610, false), FamilyNames.STATE);
        Due.due("none", x.bookOf(0, 3), 0);
        Due.due("a year ahead", x.hole(0, 1609, true), 0);
        Due.due("a year behind", x.hole(0, 1611, true), 0);
        Due.due("that year of another book", x.hole(1, 1610, true), 0);
    }

    private static void bookOf() {
        Due.promise(18, "Of a BOOK: 0 PLACE, 1 from, 2 to, 3 HOLES, 4 LINES,");
        FamilyNames x = oneBook();
        x.place(6, 6);
        x.book(1, 1700, 1709);
        x.hole(1, 1709, true);
        x.hole(1, 1701, true);
        x.line(1, 1702, 0, 0);
        x.line(1, 1702, 0, 3);
        x.line(0, 1602, 0, 0);
        x.line(1, 1703, 0, 4);
        int[] due = {1, 1700, 1709, 2, 3, 1708}, other = {0, 1600, 1663, 0, 1, 1663};
        for (int what = 0; what < due.length; what++) {
            Due.due("bookOf 1 " + what, x.bookOf(1, what), due[what]);
            Due.due("bookOf 0 " + what, x.bookOf(0, what), other[what]);
        }
        Due.promise(18, "BAD.");
        for (int what : new int[] {-1, 6, 7, Integer.MIN_VALUE, Integer.MAX_VALUE}) {
            Due.due("what " + what, x.bookOf(0, what), FamilyNames.BAD);
        }
        for (int b : new int[] {2, -1, 8, Integer.MIN_VALUE, Integer.MAX_VALUE}) {
            Due.due("book " + b, x.bookOf(b, 0), FamilyNames.BAD);
            Due.due("book " + b, x.bookOf(b, 5), FamilyNames.BAD);
        }
    }

    private static void latestYear() {
        Due.promise(18, "5 the latest year that can be read (NONE).");
        FamilyNames x = oneBook();
        x.book(0, 1700, 1701);
        Due.due("no holes", x.bookOf(1, 5), 1701);
        x.hole(1, 1700, true);
        Due.due("a hole ahead", x.bookOf(1, 5), 1701);
        x.hole(1, 1701, true);
        Due.due("none", x.bookOf(1, 5), FamilyNames.NONE);
        x.hole(1, 1700, false);
        Due.due("the first alone", x.bookOf(1, 5), 1700);
        Due.due("another book", x.bookOf(0, 5), 1663);
        for (int year = 1601; year <= 1663; year++) {
            x.hole(0, year, true);
        }
        Due.due("the first of 64", x.bookOf(0, 5), 1600);
    }

    private static void linesAreNumbered() {
        Due.terms("LINES (40) are numbered as they come:");
        FamilyNames x = oneBook();
        x.book(0, 1600, 1663);
        for (int k = 0; k < 40; k++) {
            Due.due("line " + k, x.line(k % 2, 1663 - k, k % 3, 0), k);
        }
        Due.due("the 41st", x.line(0, 1600, 0, 0), FamilyNames.FULL);
        Due.due("forty", x.count(3), 40);
        for (int k = 0; k < 40; k++) {
            Due.due("year of " + k, x.lineOf(k, 1), 1663 - k);
        }
    }

    private static void lineParts() {
        Due.terms("of a BOOK, a year of it that is no HOLE, a SPELLING,");
        FamilyNames x = oneBook();
        x.hole(0, 1601, true);
        Due.due("a hole", x.line(0, 1601, 0, 0), FamilyNames.STATE);
        Due.due("first year", x.line(0, 1600, 2, 0), 0);
        Due.due("last year", x.line(0, 1663, 1, 0), 1);
        Due.due("ahead", x.line(0, 1599, 0, 0), FamilyNames.BAD);
        Due.due("behind", x.line(0, 1664, 0, 0), FamilyNames.BAD);
        Due.due("no spelling", x.line(0, 1600, 3, 0), FamilyNames.BAD);
        Due.due("no book", x.line(1, 1600, 0, 0), FamilyNames.BAD);
    }

    private static void kinds() {
        Due.terms("a KIND: 0 READ, 1 HEARD (by a clerk of another tongue), 2 TAKEN, 3 COPIED, 4 DOUBTED.");
        FamilyNames x = oneBook();
        Due.due("kind -1", x.line(0, 1600, 0, -1), FamilyNames.BAD);
        for (int kind = 0; kind < 5; kind++) {
            Due.due("kind " + kind, x.line(0, 1600, 0, kind), kind);
            Due.due("kind " + kind, x.lineOf(kind, 3), kind);
        }
        Due.due("kind 5", x.line(0, 1600, 0, 5), FamilyNames.BAD);
        Due.terms("WORTH (of halves): 2 for READ, TAKEN, 1 for HEARD, DOUBTED, 0 for COPIED.");
        int[] worth = {2, 1, 2, 0, 1};
        for (int kind = 0; kind < 5; kind++) {
            FamilyNames y = oneBook();
            for (int many = 1; many <= 3; many++) {
                y.line(0, 1610, 0, kind);
                int sum = worth[kind] * many;
                Due.due("least of kind " + kind, y.bearers(0, 0, 1610, 1610, 0), sum / 2);
                Due.due("most of kind " + kind, y.bearers(0, 0, 1610, 1610, 1), (sum + 1) / 2);
            }
        }
    }

    private static void line() {
        Due.promise(19, "A LINE: its number.");
        FamilyNames x = oneBook();
        Due.due("the first", x.line(0, 1600, 0, 0), 0);
        Due.due("the same again", x.line(0, 1600, 0, 0), 1);
        Due.promise(19, "BAD: also a year that is not of the BOOK;");
        int[][] bad = {{1, 1600, 0, 0}, {-1, 1600, 0, 0}, {8, 1600, 0, 0}, {0, 1599, 0, 0}, {0, 1664, 0, 0},
            {0, 1600, 3, 0}, {0, 1600, -1, 0}, {0, 1600, 0, -1}, {0, 1600, 0, 5}, {0, Integer.MIN_VALUE, 0, 0},
            {0, Integer.MAX_VALUE, 0, 0}, {Integer.MAX_VALUE, 1600, 0, 0}, {0, 1600, Integer.MIN_VALUE, 0},
            {0, 1600, 0, Integer.MAX_VALUE}};
        for (int[] a : bad) {
            Due.due("line " + a[0] + " " + a[1] + " " + a[2] + " " + a[3], x.line(a[0], a[1], a[2], a[3]),
                FamilyNames.BAD);
        }
        x.book(0, 1700, 1709);
        Due.due("a year of another book", x.line(1, 1600, 0, 0), FamilyNames.BAD);
        Due.due("two", x.count(3), 2);
    }

    private static void lineState() {
        Due.promise(19, "STATE: a HOLE;");
        FamilyNames x = oneBook();
        x.hole(0, 1600, true);
        x.hole(0, 1663, true);
        Due.due("the first year", x.line(0, 1600, 0, 0), FamilyNames.STATE);
        Due.due("the last year", x.line(0, 1663, 0, 0), FamilyNames.STATE);
        Due.due("beside it", x.line(0, 1662, 0, 0), 0);
        Due.due("beside it", x.line(0, 1601, 0, 0), 1);
        Due.due("no spelling, ahead of a hole", x.line(0, 1600, 3, 0), FamilyNames.BAD);
        Due.due("no kind, ahead of a hole", x.line(0, 1600, 0, 5), FamilyNames.BAD);
        x.hole(0, 1600, false);
        Due.due("no hole any more", x.line(0, 1600, 0, 0), 2);
    }

    private static void manyLines() {
        Due.promise(19, "a HOLE; FULL.");
        FamilyNames x = oneBook();
        x.hole(0, 1663, true);
        for (int k = 0; k < 40; k++) {
            Due.due("line " + k, x.line(0, 1600 + k / 2, 0, 0), k);
        }
        Due.due("full", x.line(0, 1600, 0, 0), FamilyNames.FULL);
        Due.due("a hole ahead of full", x.line(0, 1663, 0, 0), FamilyNames.STATE);
        Due.due("bad ahead of full", x.line(0, 1600, 9, 0), FamilyNames.BAD);
        Due.due("forty", x.count(3), 40);
    }

    private static void day() {
        FamilyNames x = new FamilyNames();
        Due.promise(20, "THE DAY becomes d, not ahead of it: what it was.");
        Due.due("the same", x.day(0), 0);
        Due.due("later", x.day(10), 0);
        Due.due("it is", x.count(5), 10);
        Due.due("the same", x.day(10), 10);
        Due.due("one later", x.day(11), 10);
        Due.promise(20, "BAD.");
        Due.due("one ahead of it", x.day(10), FamilyNames.BAD);
        for (int d : new int[] {0, -1, 1000, Integer.MIN_VALUE, Integer.MAX_VALUE}) {
            Due.due("day " + d, x.day(d), FamilyNames.BAD);
        }
        Due.due("it stays", x.count(5), 11);
        Due.due("a new object", new FamilyNames().day(-1), FamilyNames.BAD);
    }

    private static void readAgain() {
        Due.terms("A LINE can be READ AGAIN on THE DAY (0 to 999; 0 at first): another SPELLING.");
        FamilyNames x = oneBook();
        Due.due("0 at first", x.count(5), 0);
        x.line(0, 1600, 0, 0);
        Due.due("day 0", x.again(0, 1), 2);
        Due.due("known on day 0", x.known(0, 0), 1);
        Due.due("the last day", x.day(999), 0);
        Due.due("1000", x.day(1000), FamilyNames.BAD);
        Due.due("day 999", x.again(0, 2), 3);
        Due.due("known on day 999", x.known(0, 999), 2);
        Due.due("known on day 998", x.known(0, 998), 1);
        Due.due("not another one", x.again(0, 2), FamilyNames.STATE);
    }

    private static void again() {
        FamilyNames x = oneBook();
        x.line(0, 1600, 0, 0);
        x.line(0, 1601, 1, 1);
        Due.promise(21, "A LINE is READ AGAIN: how often it was read so far (2 or more).");
        Due.due("twice", x.again(0, 2), 2);
        Due.due("three times", x.again(0, 1), 3);
        Due.due("back to an earlier one", x.again(0, 0), 4);
        Due.due("another line", x.again(1, 0), 2);
        Due.due("its spelling", x.lineOf(1, 2), 0);
        Due.promise(21, "BAD;");
        for (int v : new int[] {3, -1, 40, Integer.MIN_VALUE, Integer.MAX_VALUE}) {
            Due.due("spelling " + v, x.again(0, v), FamilyNames.BAD);
            Due.due("line " + v, x.again(v, 0), FamilyNames.BAD);
        }
        Due.due("line 2", x.again(2, 0), FamilyNames.BAD);
        Due.promise(21, "STATE: it has that SPELLING now;");
        Due.due("by the latest reading", x.again(0, 0), FamilyNames.STATE);
        Due.due("by the latest reading", x.again(1, 0), FamilyNames.STATE);
        Due.due("not by an earlier one", x.again(1, 1), 3);
        x.line(0, 1602, 2, 0);
        Due.due("by the first reading", x.again(2, 2), FamilyNames.STATE);
        Due.due("a spelling of one sound is another one", x.again(0, 1), 5);
        Due.due("how many", x.count(4), 6);
    }

    private static void manyReadings() {
        Due.promise(21, "FULL: 60 readings in all (first ones not counted).");
        FamilyNames x = oneBook();
        x.line(0, 1600, 0, 0);
        x.line(0, 1600, 0, 0);
        for (int r = 0; r < 60; r++) {
            Due.due("reading " + r, x.again(r % 2, r / 2 % 2 == 0 ? 1 : 0), r / 2 + 2);
        }
        Due.due("full", x.again(0, 1), FamilyNames.FULL);
        Due.due("full for another line", x.again(1, 2), FamilyNames.FULL);
        Due.due("the same, ahead of full", x.again(0, 0), FamilyNames.STATE);
        Due.due("bad ahead of full", x.again(0, 9), FamilyNames.BAD);
        Due.due("sixty", x.count(4), 60);
        Due.due("how often", x.lineOf(0, 6), 31);
        Due.due("a line may still come", x.line(0, 1600, 0, 0), 2);
        Due.due("and is full", x.again(2, 1), FamilyNames.FULL);
    }

    private static void lineOf() {
        Due.promise(22, "Of a LINE: 0 BOOK, 1 year, 2 SPELLING, 3 KIND, 4 NAME,");
        FamilyNames x = oneBook();
        x.book(0, 1620, 1629);
        x.day(7);
        x.line(0, 1600, 0, 0);
        x.line(1, 1620, 1, 4);
        x.line(1, 1621, 2, 2);
        int[] due = {1, 1620, 1, 4, 0};
        for (int what = 0; what < due.length; what++) {
            Due.due("what " + what, x.lineOf(1, what), due[what]);
        }
        Due.due("another name", x.lineOf(2, 4), 2);
        Due.promise(22, "5 FATHER (NONE),");
        Due.due("none", x.lineOf(1, 5), FamilyNames.NONE);
        x.father(1, 0);
        Due.due("line 0", x.lineOf(1, 5), 0);
        Due.promise(22, "6 how often it was read, 7 the day when it came.");
        Due.due("once", x.lineOf(1, 6), 1);
        x.day(9);
        x.again(1, 2);
        Due.due("twice", x.lineOf(1, 6), 2);
        Due.due("the day when it came", x.lineOf(1, 7), 7);
        x.line(0, 1600, 0, 0);
        Due.due("the day when it came", x.lineOf(3, 7), 9);
        Due.promise(22, "BAD.");
        for (int what : new int[] {-1, 8, 9, Integer.MIN_VALUE, Integer.MAX_VALUE}) {
            Due.due("what " + what, x.lineOf(0, what), FamilyNames.BAD);
        }
        for (int k : new int[] {4, -1, 40, Integer.MIN_VALUE, Integer.MAX_VALUE}) {
            Due.due("line " + k, x.lineOf(k, 0), FamilyNames.BAD);
            Due.due("line " + k, x.lineOf(k, 5), FamilyNames.BAD);
        }
    }

    private static void asKnown() {
        FamilyNames x = oneBook();
        x.day(3);
        x.line(0, 1600, 0, 0);
        Due.terms("AS KNOWN on a day: the one of the latest reading up to that day");
        x.day(5);
        x.line(0, 1601, 1, 1);
        x.again(0, 2);
        x.day(8);
        x.again(0, 0);
        x.again(0, 1);
        x.again(1, 0);
        int[] due = {-4, -4, -4, 0, 0, 2, 2, 2, 1, 1};
        for (int d = 0; d < due.length; d++) {
            Due.due("known " + d, x.known(0, d), due[d]);
        }
        Due.due("of the other, the day before", x.known(1, 7), 1);
        Due.due("of the other, that day", x.known(1, 8), 0);
        Due.terms("(the first one is of the day when the LINE came);");
        Due.due("that day", x.known(0, 3), 0);
        Due.due("that day", x.known(1, 5), 1);
        Due.terms("NONE, if it had not come.");
        Due.due("the day before", x.known(0, 2), FamilyNames.NONE);
        Due.due("the day before", x.known(1, 4), FamilyNames.NONE);
        Due.due("day 0", x.known(1, 0), FamilyNames.NONE);
    }

    private static void known() {
        Due.promise(23, "Its SPELLING AS KNOWN on a day (0 to 999).");
        FamilyNames x = oneBook();
        x.line(0, 1600, 1, 0);
        Due.due("day 0", x.known(0, 0), 1);
        Due.due("day 999", x.known(0, 999), 1);
        x.again(0, 2);
        Due.due("again the same day", x.known(0, 0), 2);
        Due.due("day 999", x.known(0, 999), 2);
        Due.promise(23, "BAD;");
        for (int d : new int[] {-1, 1000, Integer.MIN_VALUE, Integer.MAX_VALUE}) {
            Due.due("day " + d, x.known(0, d), FamilyNames.BAD);
        }
        for (int k : new int[] {1, -1, 40, Integer.MIN_VALUE, Integer.MAX_VALUE}) {
            Due.due("line " + k, x.known(k, 5), FamilyNames.BAD);
        }
        Due.promise(23, "NONE.");
        x.day(4);
        x.line(0, 1600, 1, 0);
        Due.due("not yet", x.known(1, 3), FamilyNames.NONE);
        Due.due("bad ahead of none", x.known(1, -1), FamilyNames.BAD);
    }

    private static void latestReading() {
        Due.terms("What is not said otherwise goes by the latest reading.");
        FamilyNames x = oneBook();
        x.line(0, 1620, 0, 0);
        x.line(0, 1600, 2, 0);
        x.day(4);
        x.again(0, 2);
        Due.due("spelling", x.lineOf(0, 2), 2);
        Due.due("name", x.lineOf(0, 4), 2);
        Due.due("bearers of the first", x.bearers(0, 0, 1620, 1620, 0), 0);
        Due.due("bearers of the latest", x.bearers(2, 0, 1620, 1620, 0), 1);
        Due.due("first of the first", x.first(0, 0), FamilyNames.NONE);
        Due.due("starts of the first", x.starts(0, 2), 0);
        Due.due("pace of the first", x.pace(0), FamilyNames.NONE);
        Due.due("judge of the first", x.judge(0, 1), FamilyNames.STATE);
        Due.due("judge of the latest", x.judge(2, 1), 1);
        Due.due("related", x.related(0, 1), 1);
        x.father(0, 1);
        Due.due("issue of one name", x.issue(1, 1), 0);
        Due.due("names that lines have", x.count(6), 1);
        x.again(0, 0);
        Due.due("issue of another name", x.issue(1, 1), 1);
        Due.due("names that lines have", x.count(6), 2);
    }
}
