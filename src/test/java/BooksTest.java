/** Promises 15 to 23: places, books, holes, lines, days, readings. */
public final class BooksTest {
    public static void main(String[] args) {
        places();
        books();
        holes();
        latestYear();
        lines();
        manyLines();
        days();
        readings();
        manyReadings();
        Due.finish();
    }

    private static void places() {
        FamilyNames x = new FamilyNames();
        Due.due("x below", x.place(-1, 0), FamilyNames.BAD);
        Due.due("y below", x.place(0, -1), FamilyNames.BAD);
        Due.due("x above", x.place(100, 0), FamilyNames.BAD);
        Due.due("y above", x.place(0, 100), FamilyNames.BAD);
        Due.due("corner", x.place(0, 99), 0);
        Due.due("corner", x.place(99, 0), 1);
        Due.due("two at one spot", x.place(99, 0), 2);
        for (int p = 3; p < 8; p++) {
            Due.due("place " + p, x.place(p, p), p);
        }
        Due.due("full", x.place(0, 0), FamilyNames.FULL);
        Due.due("bad ahead of full", x.place(0, 100), FamilyNames.BAD);
        Due.due("eight", x.count(1), 8);
    }

    private static void books() {
        FamilyNames x = new FamilyNames();
        Due.due("no place", x.book(0, 1600, 1601), FamilyNames.BAD);
        x.place(1, 1);
        x.place(2, 2);
        int[][] bad = {{-1, 1600, 1601}, {2, 1600, 1601}, {0, 1499, 1501}, {0, 1899, 1900}, {0, 1601, 1600},
            {0, 1600, 1664}, {0, Integer.MIN_VALUE, Integer.MAX_VALUE}, {0, Integer.MAX_VALUE, Integer.MIN_VALUE}};
        for (int[] a : bad) {
            Due.due("book " + a[0] + " " + a[1] + " " + a[2], x.book(a[0], a[1], a[2]), FamilyNames.BAD);
        }
        Due.due("64 years", x.book(1, 1500, 1563), 0);
        Due.due("one year", x.book(0, 1899, 1899), 1);
        Due.due("the same again", x.book(0, 1899, 1899), 2);
        for (int b = 3; b < 8; b++) {
            Due.due("book " + b, x.book(0, 1600, 1600 + b), b);
        }
        Due.due("full", x.book(0, 1600, 1601), FamilyNames.FULL);
        Due.due("bad ahead of full", x.book(0, 1600, 1599), FamilyNames.BAD);
        Due.due("eight", x.count(2), 8);
        int[] due = {1, 1500, 1563, 0, 0, 1563};
        for (int what = 0; what < due.length; what++) {
            Due.due("bookOf " + what, x.bookOf(0, what), due[what]);
        }
        Due.due("bookOf: what", x.bookOf(0, -1), FamilyNames.BAD);
        Due.due("bookOf: what", x.bookOf(0, 6), FamilyNames.BAD);
        Due.due("bookOf: no book", x.bookOf(8, 0), FamilyNames.BAD);
        Due.due("bookOf: no book", x.bookOf(-1, 0), FamilyNames.BAD);
    }

    private static FamilyNames oneBook() {
        FamilyNames x = Due.withWords("a", "b", "zzzzzz");
        x.place(5, 5);
        Due.due("book", x.book(0, 1600, 1663), 0);
        return x;
    }

    private static void holes() {
        FamilyNames x = oneBook();
        Due.due("first year", x.hole(0, 1600, true), 0);
        Due.due("last year", x.hole(0, 1663, true), 0);
        Due.due("in the midst", x.hole(0, 1632, true), 0);
        Due.due("it was", x.hole(0, 1632, true), 1);
        Due.due("three", x.bookOf(0, 3), 3);
        Due.due("no more", x.hole(0, 1632, false), 1);
        Due.due("it was not", x.hole(0, 1632, false), 0);
        Due.due("two", x.bookOf(0, 3), 2);
        Due.due("ahead of the book", x.hole(0, 1599, true), FamilyNames.BAD);
        Due.due("behind the book", x.hole(0, 1664, true), FamilyNames.BAD);
        Due.due("no book", x.hole(1, 1600, true), FamilyNames.BAD);
        Due.due("no book", x.hole(-1, 1600, true), FamilyNames.BAD);
        Due.due("a line", x.line(0, 1610, 0, 3), 0);
        Due.due("has lines", x.hole(0, 1610, true), FamilyNames.STATE);
        Due.due("has lines", x.hole(0, 1610, false), FamilyNames.STATE);
        Due.due("refused", x.bookOf(0, 3), 2);
        x.book(0, 1600, 1620);
        Due.due("lines of another book", x.hole(1, 1610, true), 0);
    }

    private static void latestYear() {
        FamilyNames x = oneBook();
        x.book(0, 1700, 1701);
        x.hole(1, 1701, true);
        Due.due("latest", x.bookOf(1, 5), 1700);
        x.hole(1, 1700, true);
        Due.due("none", x.bookOf(1, 5), FamilyNames.NONE);
        x.hole(1, 1701, false);
        Due.due("latest", x.bookOf(1, 5), 1701);
        Due.due("another book", x.bookOf(0, 5), 1663);
    }

    private static void lines() {
        FamilyNames x = oneBook();
        x.day(7);
        int[][] bad = {{1, 1600, 0, 0}, {-1, 1600, 0, 0}, {0, 1599, 0, 0}, {0, 1664, 0, 0}, {0, 1600, 3, 0},
            {0, 1600, -1, 0}, {0, 1600, 0, -1}, {0, 1600, 0, 5}};
        for (int[] a : bad) {
            Due.due("line " + a[0] + " " + a[1] + " " + a[2] + " " + a[3], x.line(a[0], a[1], a[2], a[3]), FamilyNames.BAD);
        }
        x.hole(0, 1601, true);
        Due.due("a hole", x.line(0, 1601, 0, 0), FamilyNames.STATE);
        Due.due("bad ahead of a hole", x.line(0, 1601, 0, 5), FamilyNames.BAD);
        for (int kind = 0; kind < 5; kind++) {
            Due.due("kind " + kind, x.line(0, 1600 + 2 * kind, kind % 3, kind), kind);
        }
        int[] due = {0, 1606, 0, 3, 0, FamilyNames.NONE, 1, 7};
        for (int what = 0; what < due.length; what++) {
            Due.due("lineOf " + what, x.lineOf(3, what), due[what]);
        }
        Due.due("its name", x.lineOf(4, 4), 0);
        Due.due("its name", x.lineOf(2, 4), 2);
        Due.due("its spelling", x.lineOf(4, 2), 1);
        Due.due("what", x.lineOf(0, 8), FamilyNames.BAD);
        Due.due("what", x.lineOf(0, -1), FamilyNames.BAD);
        Due.due("no line", x.lineOf(5, 0), FamilyNames.BAD);
        Due.due("no line", x.lineOf(-1, 0), FamilyNames.BAD);
        Due.due("lines of the book", x.bookOf(0, 4), 5);
        Due.due("names that lines have", x.count(6), 2);
    }

    private static void manyLines() {
        FamilyNames x = oneBook();
        x.hole(0, 1663, true);
        for (int k = 0; k < 40; k++) {
            Due.due("line " + k, x.line(0, 1600 + k / 2, 0, 0), k);
        }
        Due.due("full", x.line(0, 1600, 0, 0), FamilyNames.FULL);
        Due.due("a hole ahead of full", x.line(0, 1663, 0, 0), FamilyNames.STATE);
        Due.due("bad ahead of full", x.line(0, 1600, 9, 0), FamilyNames.BAD);
        Due.due("forty", x.count(3), 40);
    }

    private static void days() {
        FamilyNames x = new FamilyNames();
        Due.due("below", x.day(-1), FamilyNames.BAD);
        Due.due("above", x.day(1000), FamilyNames.BAD);
        Due.due("the same", x.day(0), 0);
        Due.due("later", x.day(10), 0);
        Due.due("not back", x.day(9), FamilyNames.BAD);
        Due.due("the same", x.day(10), 10);
        Due.due("it is", x.count(5), 10);
        Due.due("last", x.day(999), 10);
        Due.due("no more", x.day(1000), FamilyNames.BAD);
        Due.due("it is", x.count(5), 999);
    }

    private static void readings() {
        FamilyNames x = oneBook();
        x.day(3);
        x.line(0, 1600, 0, 0);
        Due.due("not yet", x.known(0, 2), FamilyNames.NONE);
        Due.due("that day", x.known(0, 3), 0);
        Due.due("ever since", x.known(0, 999), 0);
        Due.due("the same spelling", x.again(0, 0), FamilyNames.STATE);
        Due.due("no spelling", x.again(0, 3), FamilyNames.BAD);
        Due.due("no spelling", x.again(0, -1), FamilyNames.BAD);
        Due.due("no line", x.again(1, 0), FamilyNames.BAD);
        Due.due("no line", x.again(-1, 0), FamilyNames.BAD);
        Due.due("again the same day", x.again(0, 2), 2);
        Due.due("the latest of the day", x.known(0, 3), 2);
        Due.due("its name", x.lineOf(0, 4), 2);
        x.day(5);
        x.line(0, 1601, 1, 1);
        Due.due("again", x.again(0, 1), 3);
        x.day(8);
        Due.due("back", x.again(0, 2), 4);
        Due.due("another line", x.again(1, 0), 2);
        int[] due = {-4, -4, -4, 2, 2, 1, 1, 1, 2, 2};
        for (int d = 0; d < due.length; d++) {
            Due.due("known " + d, x.known(0, d), due[d]);
        }
        Due.due("known of the other", x.known(1, 7), 1);
        Due.due("known of the other", x.known(1, 8), 0);
        Due.due("how often", x.lineOf(0, 6), 4);
        Due.due("spelling now", x.lineOf(0, 2), 2);
        Due.due("readings", x.count(4), 4);
        Due.due("the day it came stays", x.lineOf(0, 7), 3);
        Due.due("no day", x.known(0, -1), FamilyNames.BAD);
        Due.due("no day", x.known(0, 1000), FamilyNames.BAD);
        Due.due("no line", x.known(2, 5), FamilyNames.BAD);
        Due.due("no line", x.known(-1, 5), FamilyNames.BAD);
    }

    private static void manyReadings() {
        FamilyNames x = oneBook();
        x.line(0, 1600, 0, 0);
        x.line(0, 1600, 0, 0);
        for (int r = 0; r < 60; r++) {
            Due.due("reading " + r, x.again(r % 2, r / 2 % 2 == 0 ? 1 : 0), r / 2 + 2);
        }
        Due.due("full", x.again(0, 1), FamilyNames.FULL);
        Due.due("the same, ahead of full", x.again(0, 0), FamilyNames.STATE);
        Due.due("bad ahead of full", x.again(0, 9), FamilyNames.BAD);
        Due.due("sixty", x.count(4), 60);
        Due.due("a line may still come", x.line(0, 1600, 0, 0), 2);
    }
}
