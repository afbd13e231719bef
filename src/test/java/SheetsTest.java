/** Promises 34 to 38: sheets, what the machine finds, books read from sheets, counts. */
public final class SheetsTest {
    private static final int[] NO_NUMBER = {-1, 40, Integer.MIN_VALUE, Integer.MAX_VALUE};

    public static void main(String[] args) {
        fourSheets();
        cellsOrNothing();
        faults();
        sheet();
        sheetRefused();
        lay();
        lowestBits();
        layRefused();
        read();
        cellAndYear();
        holesArePassedOver();
        tornSheet();
        cameAheadStays();
        readBad();
        wrongCell();
        readFull();
        torn();
        counts();
        countsOfNothing();
        namesOfLines();
        Due.finish();
    }

    private static FamilyNames book(int years) {
        FamilyNames x = Due.withWords("a", "b", "zzzzzz");
        x.place(0, 0);
        Due.due("book", x.book(0, 1700, 1699 + years), 0);
        return x;
    }

    private static void fill(FamilyNames x, int k, int lane, int... cells) {
        Due.due("sheet", x.sheet(k, lane, cells.length), 1);
        for (int i = 0; i < cells.length; i++) {
            Due.due("lay " + i, x.lay(k, i, cells[i]), 1);
        }
    }

    private static void fourSheets() {
        Due.terms("SHEETS 0 to 3 are rows of BYTES (lane 0), SHORTS (1), INTS (2)");
        for (int k = 0; k < 4; k++) {
            for (int lane = 0; lane < 3; lane++) {
                FamilyNames x = book(2);
                fill(x, k, lane, 1, 2);
                for (int other = 0; other < 4; other++) {
                    Due.due("sheet " + other + " of its own", x.lay(other, 1, 2), other == k ? 1 : -11);
                }
                Due.due("sheet " + k + " lane " + lane, x.read(0, k, lane), 2);
                Due.due("spelling", x.lineOf(0, 2), 1);
                Due.due("spelling", x.lineOf(1, 2), 2);
            }
        }
        FamilyNames x = book(2);
        Due.due("sheet 4", x.sheet(4, 0, 1), FamilyNames.BAD);
        Due.due("sheet -1", x.sheet(-1, 0, 1), FamilyNames.BAD);
        Due.due("lane 3", x.sheet(0, 3, 1), FamilyNames.BAD);
        Due.due("lane -1", x.sheet(0, -1, 1), FamilyNames.BAD);
    }

    private static void cellsOrNothing() {
        Due.terms("with 0 to 64 CELLS, or nothing (at first).");
        FamilyNames x = book(64);
        Due.due("nothing at first", x.lay(0, 0, 0), -11);
        Due.due("no cells", x.sheet(0, 0, 0), 1);
        Due.due("no cells", x.lay(0, 0, 0), -12);
        Due.due("one", x.sheet(0, 0, 1), 1);
        Due.due("one", x.lay(0, 0, 0), 1);
        Due.due("one", x.lay(0, 1, 0), -12);
        Due.due("64", x.sheet(0, 0, 64), 1);
        Due.due("64", x.lay(0, 63, 0), 1);
        Due.due("64", x.lay(0, 64, 0), -12);
        Due.due("65", x.sheet(0, 0, 65), FamilyNames.BAD);
        for (int i = 0; i < 64; i++) {
            x.lay(0, i, i == 0 || i == 63 ? 2 : -1);
        }
        Due.due("64 years from 64 cells", x.read(0, 0, 0), 2);
        Due.due("the last year", x.lineOf(1, 1), 1763);
        Due.due("no fault", x.torn(), 0);
    }

    private static void faults() {
        Due.terms("A FAULT is what the machine finds: 1 NULL (nothing), 2 INDEX, 3 CAST (another lane),"
            + " 4 SIZE (below 0).");
        FamilyNames x = book(2);
        Due.due("nothing", x.lay(0, 0, 0), -11);
        Due.due("below 0", x.sheet(0, 0, -1), -14);
        fill(x, 1, 1, 0);
        Due.due("index", x.lay(1, 1, 0), -12);
        Due.due("index", x.lay(1, -1, 0), -12);
        int[][] reads = {{0, 0, 1}, {0, 1, 1}, {0, 2, 1}, {1, 0, 3}, {1, 2, 3}, {1, 1, 2}};
        for (int[] a : reads) {
            FamilyNames y = book(2);
            fill(y, 1, 1, 0);
            y.read(0, a[0], a[1]);
            Due.due("sheet " + a[0] + " as of lane " + a[1], y.torn(), a[2]);
        }
        FamilyNames cast = book(3);
        cast.sheet(0, 0, 0);
        cast.read(0, 0, 1);
        Due.due("cast ahead of index", cast.torn(), 3);
    }

    private static void sheet() {
        Due.promise(34, "A SHEET is a new row of CELLS 0: 1.");
        FamilyNames x = book(3);
        Due.due("new", x.sheet(0, 2, 3), 1);
        Due.due("cells are 0", x.read(0, 0, 2), 3);
        Due.due("cells are 0", x.lineOf(2, 2), 0);
        fill(x, 0, 2, 2, 2, 2);
        Due.due("new", x.sheet(0, 0, 1), 1);
        Due.due("shorter", x.count(8), 1);
        Due.due("new", x.sheet(0, 2, 3), 1);
        Due.due("cells are 0 again", x.read(0, 0, 2), 3);
        Due.due("cells are 0 again", x.lineOf(3, 2), 0);
        Due.due("cells are 0 again", x.lineOf(5, 2), 0);
        Due.due("of another lane", x.sheet(0, 1, 3), 1);
        x.hole(0, 1700, true);
        Due.due("of another lane", x.read(0, 0, 2), 0);
        Due.due("of another lane", x.torn(), 3);
    }

    private static void sheetRefused() {
        FamilyNames x = new FamilyNames();
        Due.promise(34, "BAD: also n above 64;");
        int[][] bad = {{-1, 0, 1}, {4, 0, 1}, {0, -1, 1}, {0, 3, 1}, {0, 0, 65}, {0, 0, Integer.MAX_VALUE},
            {Integer.MIN_VALUE, 0, 1}, {Integer.MAX_VALUE, 0, 1}, {0, Integer.MIN_VALUE, 1}, {0, Integer.MAX_VALUE, 1}};
        for (int[] a : bad) {
            Due.due("sheet " + a[0] + " " + a[1] + " " + a[2], x.sheet(a[0], a[1], a[2]), FamilyNames.BAD);
        }
        Due.due("bad ahead of the size: k", x.sheet(4, 0, -1), FamilyNames.BAD);
        Due.due("bad ahead of the size: lane", x.sheet(0, 3, -1), FamilyNames.BAD);
        Due.due("still nothing", x.count(8), FamilyNames.NONE);
        Due.promise(34, "-10 - 4.");
        Due.due("-1", x.sheet(0, 0, -1), -14);
        Due.due("the least", x.sheet(0, 2, Integer.MIN_VALUE), -14);
        Due.due("still nothing", x.count(8), FamilyNames.NONE);
        x.sheet(0, 1, 64);
        Due.due("-1", x.sheet(0, 1, -1), -14);
        Due.due("it stays", x.count(8), 64);
    }

    private static void lay() {
        Due.promise(35, "CELL i of a SHEET becomes v");
        FamilyNames x = book(3);
        x.sheet(0, 2, 3);
        Due.due("laid", x.lay(0, 2, 2), 1);
        Due.due("laid", x.lay(0, 0, 9), 1);
        Due.due("laid over", x.lay(0, 0, -1), 1);
        Due.due("read", x.read(0, 0, 2), 2);
        Due.due("the one between is 0", x.lineOf(0, 2), 0);
        Due.due("what was laid", x.lineOf(1, 2), 2);
    }

    private static void lowestBits() {
        Due.promise(35, "(its lowest bits): 1.");
        int[][] cells = {{256 + 1, -1 - 256, 128, 255}, {65536 + 1, -1 - 65536, 32768, 65535}};
        for (int lane = 0; lane < 2; lane++) {
            FamilyNames x = book(4);
            fill(x, 0, lane, cells[lane][0], cells[lane][1], -1, cells[lane][3]);
            Due.due("lane " + lane, x.read(0, 0, lane), 1);
            Due.due("lane " + lane, x.lineOf(0, 2), 1);
            x.lay(0, 2, cells[lane][2]);
            Due.due("below 0, lane " + lane, x.read(0, 0, lane), -22);
            x.lay(0, 2, cells[lane][2] - 1);
            Due.due("above, lane " + lane, x.read(0, 0, lane), -22);
        }
        FamilyNames x = book(2);
        fill(x, 0, 2, 65536 + 1, 0);
        Due.due("ints keep all", x.read(0, 0, 2), -20);
        x.lay(0, 0, Integer.MIN_VALUE);
        Due.due("ints keep all", x.read(0, 0, 2), -20);
        x.lay(0, 0, Integer.MIN_VALUE + 1);
        Due.due("ints keep all", x.read(0, 0, 2), -20);
        fill(x, 1, 1, 256 + 1, 0);
        Due.due("shorts keep more than bytes", x.read(0, 1, 1), -20);
    }

    private static void layRefused() {
        FamilyNames x = new FamilyNames();
        Due.promise(35, "BAD: k;");
        for (int k : new int[] {-1, 4, Integer.MIN_VALUE, Integer.MAX_VALUE}) {
            Due.due("sheet " + k, x.lay(k, 0, 0), FamilyNames.BAD);
            Due.due("sheet " + k + ", ahead of the index", x.lay(k, -1, 0), FamilyNames.BAD);
        }
        Due.promise(35, "-10 less the FAULT: NULL, INDEX.");
        Due.due("nothing", x.lay(0, 0, 0), -11);
        Due.due("nothing, ahead of the index", x.lay(0, -1, 0), -11);
        x.sheet(0, 2, 3);
        for (int i : new int[] {-1, 3, 64, Integer.MIN_VALUE, Integer.MAX_VALUE}) {
            Due.due("cell " + i, x.lay(0, i, 0), -12);
        }
        Due.due("the first", x.lay(0, 0, 0), 1);
        Due.due("the last", x.lay(0, 2, 0), 1);
        x.sheet(0, 2, 0);
        Due.due("no cells", x.lay(0, 0, 0), -12);
        x.sheet(0, 2, 3);
        x.sheet(0, 2, -1);
        Due.due("refused rows leave the old one", x.lay(0, 2, 0), 1);
    }

    private static void read() {
        Due.promise(36, "LINES (READ) of a BOOK, year by year, from a SHEET taken as of a lane:");
        FamilyNames x = book(5);
        x.place(1, 1);
        x.book(1, 1800, 1804);
        x.day(6);
        fill(x, 2, 0, 1, -1, 0, 2, -1);
        x.line(0, 1702, 0, 1);
        Due.due("came", x.read(0, 2, 0), 3);
        int[][] due = {{0, 1700, 1, 0, 0, -4, 1, 6}, {0, 1702, 0, 0, 0, -4, 1, 6}, {0, 1703, 2, 0, 2, -4, 1, 6}};
        for (int i = 0; i < due.length; i++) {
            for (int what = 0; what < 8; what++) {
                Due.due("line " + i + ", " + what, x.lineOf(1 + i, what), due[i][what]);
            }
        }
        Due.due("of another book", x.read(1, 2, 0), 3);
        Due.due("of another book", x.lineOf(4, 0), 1);
        Due.due("its year", x.lineOf(4, 1), 1800);
    }

    private static void cellAndYear() {
        Due.promise(36, "CELL i for year from and i: a SPELLING, or -1 (nothing): how many came.");
        FamilyNames x = book(3);
        fill(x, 0, 1, -1, -1, 2, 99, -99);
        Due.due("cells behind the last year are not looked at", x.read(0, 0, 1), 1);
        Due.due("the last year", x.lineOf(0, 1), 1702);
        Due.due("its spelling", x.lineOf(0, 2), 2);
        Due.due("no fault", x.torn(), 0);
        fill(x, 0, 1, -1, -1, -1);
        Due.due("nothing", x.read(0, 0, 1), 0);
        Due.due("no fault", x.torn(), 0);
        Due.due("no holes", x.bookOf(0, 3), 0);
        fill(x, 0, 1, 0, 1, 2);
        Due.due("all", x.read(0, 0, 1), 3);
        Due.due("again: a year may have several", x.read(0, 0, 1), 3);
        Due.due("seven", x.bookOf(0, 4), 7);
    }

    private static void holesArePassedOver() {
        Due.promise(36, "Years that are HOLES are passed over.");
        FamilyNames x = book(4);
        x.hole(0, 1701, true);
        x.hole(0, 1703, true);
        fill(x, 0, 0, 0, 99, 2);
        Due.due("came", x.read(0, 0, 0), 2);
        Due.due("what is passed over is not asked for", x.torn(), 0);
        Due.due("their years", x.lineOf(0, 1), 1700);
        Due.due("their years", x.lineOf(1, 1), 1702);
        Due.due("its own cell", x.lineOf(1, 2), 2);
        Due.due("holes still", x.bookOf(0, 3), 2);
        FamilyNames all = book(2);
        all.hole(0, 1700, true);
        all.hole(0, 1701, true);
        Due.due("all holes, from nothing", all.read(0, 0, 0), 0);
        Due.due("all holes, from nothing", all.torn(), 0);
        FamilyNames late = book(4);
        late.hole(0, 1700, true);
        late.hole(0, 1701, true);
        fill(late, 0, 0, 0, 0);
        Due.due("the first that is asked for is too far", late.read(0, 0, 0), 0);
        Due.due("the first that is asked for is too far", late.torn(), 2);
        Due.due("all holes now", late.bookOf(0, 3), 4);
    }

    private static void tornSheet() {
        Due.promise(36, "What the machine refuses: from that year on all years of the BOOK that have no LINES"
            + " become HOLES (its FAULT is asked by torn()),");
        FamilyNames x = book(6);
        x.line(0, 1704, 0, 0);
        fill(x, 0, 1, 1, -1, 0);
        Due.due("came ahead", x.read(0, 0, 1), 2);
        Due.due("index", x.torn(), 2);
        Due.due("the years behind without lines", x.bookOf(0, 3), 2);
        Due.due("the first of them", x.line(0, 1703, 0, 0), FamilyNames.STATE);
        Due.due("one with lines", x.line(0, 1704, 0, 0), 3);
        Due.due("the last of them", x.line(0, 1705, 0, 0), FamilyNames.STATE);
        Due.due("nothing ahead became one", x.line(0, 1701, 0, 0), 4);
        Due.due("latest", x.bookOf(0, 5), 1704);
        for (int lane = 0; lane < 3; lane++) {
            FamilyNames y = book(5);
            y.place(1, 1);
            y.book(1, 1700, 1704);
            y.line(0, 1702, 0, 0);
            y.line(1, 1703, 0, 0);
            Due.due("nothing", y.read(0, 3, lane), 0);
            Due.due("null", y.torn(), 1);
            Due.due("all without lines", y.bookOf(0, 3), 4);
            Due.due("another book has none", y.bookOf(1, 3), 0);
            for (int other = 0; other < 3; other++) {
                FamilyNames z = book(2);
                fill(z, 0, lane, 9, 9);
                Due.due("lane " + lane + " as " + other, z.read(0, 0, other), lane == other ? -20 : 0);
                Due.due("cast", z.torn(), lane == other ? 0 : 3);
                Due.due("cast", z.bookOf(0, 3), lane == other ? 0 : 2);
            }
        }
        FamilyNames empty = book(64);
        empty.sheet(0, 0, 0);
        Due.due("no cells", empty.read(0, 0, 0), 0);
        Due.due("no cells", empty.torn(), 2);
        Due.due("all 64", empty.bookOf(0, 3), 64);
        Due.due("none", empty.bookOf(0, 5), FamilyNames.NONE);
        FamilyNames last = book(64);
        last.sheet(0, 0, 63);
        for (int i = 0; i < 63; i++) {
            last.lay(0, i, -1);
        }
        Due.due("one cell too few", last.read(0, 0, 0), 0);
        Due.due("one cell too few", last.torn(), 2);
        Due.due("the last year alone", last.bookOf(0, 3), 1);
        Due.due("the year ahead of it", last.bookOf(0, 5), 1762);
    }

    private static void cameAheadStays() {
        Due.promise(36, "what came ahead stays.");
        FamilyNames x = book(5);
        x.hole(0, 1701, true);
        fill(x, 0, 0, 2, 0, 1);
        Due.due("two came", x.read(0, 0, 0), 2);
        Due.due("torn", x.torn(), 2);
        Due.due("two", x.count(3), 2);
        Due.due("first", x.lineOf(0, 2), 2);
        Due.due("second", x.lineOf(1, 2), 1);
        Due.due("holes", x.bookOf(0, 3), 3);
        Due.due("as of another lane: all that came have lines", x.read(0, 0, 1), 0);
        Due.due("cast", x.torn(), 3);
        Due.due("two still", x.count(3), 2);
        Due.due("no more holes", x.bookOf(0, 3), 3);
    }

    private static void readBad() {
        Due.promise(36, "BAD: b, k, lane;");
        FamilyNames x = book(2);
        fill(x, 0, 0, 9, 9);
        for (int v : NO_NUMBER) {
            Due.due("book " + v, x.read(v, 0, 0), FamilyNames.BAD);
            Due.due("sheet " + v, x.read(0, v, 0), FamilyNames.BAD);
            Due.due("lane " + v, x.read(0, 0, v), FamilyNames.BAD);
        }
        Due.due("book 1", x.read(1, 0, 0), FamilyNames.BAD);
        Due.due("sheet 4", x.read(0, 4, 0), FamilyNames.BAD);
        Due.due("lane 3", x.read(0, 0, 3), FamilyNames.BAD);
        Due.due("nothing is a hole", x.bookOf(0, 3), 0);
        Due.due("no fault", x.torn(), 0);
    }

    private static void wrongCell() {
        Due.promise(36, "-20 less i: CELL i is no SPELLING, nor -1: then nothing came, nothing is a HOLE;");
        FamilyNames x = book(6);
        fill(x, 0, 2, 0, 1, 3, 4);
        Due.due("the first that is none", x.read(0, 0, 2), -22);
        Due.due("nothing came", x.count(3), 0);
        Due.due("nothing is a hole", x.bookOf(0, 3), 0);
        Due.due("no fault", x.torn(), 0);
        x.lay(0, 2, -2);
        Due.due("below -1", x.read(0, 0, 2), -22);
        x.lay(0, 0, 3);
        Due.due("cell 0", x.read(0, 0, 2), -20);
        x.lay(0, 0, 16);
        Due.due("cell 0", x.read(0, 0, 2), -20);
        x.lay(0, 0, 0);
        x.lay(0, 2, -1);
        Due.due("the next", x.read(0, 0, 2), -23);
        Due.due("a new spelling", x.spelling(Due.word("q")), 3);
        Due.due("still the same cell", x.read(0, 0, 2), -23);
        Due.due("another one", x.spelling(Due.word("r")), 4);
        x.hole(0, 1701, true);
        Due.due("now it is one", x.read(0, 0, 2), 2);
        Due.due("index at 4", x.torn(), 2);
        FamilyNames last = book(64);
        last.sheet(3, 2, 64);
        for (int i = 0; i < 64; i++) {
            last.lay(3, i, i == 63 ? 3 : -1);
        }
        Due.due("the last cell", last.read(0, 3, 2), -83);
    }

    private static void readFull() {
        Due.promise(36, "FULL: LINES would be more than 40 (likewise).");
        FamilyNames x = book(6);
        for (int k = 0; k < 37; k++) {
            x.line(0, 1700, 0, 0);
        }
        fill(x, 0, 0, 0, 0, 0, 0);
        Due.due("four are too many", x.read(0, 0, 0), FamilyNames.FULL);
        Due.due("nothing came", x.count(3), 37);
        Due.due("nothing is a hole", x.bookOf(0, 3), 0);
        Due.due("no fault", x.torn(), 0);
        x.lay(0, 3, 3);
        Due.due("no spelling ahead of full", x.read(0, 0, 0), -23);
        x.lay(0, 3, -1);
        Due.due("three fit", x.read(0, 0, 0), 3);
        Due.due("forty", x.count(3), 40);
        Due.due("index", x.torn(), 2);
        Due.due("holes", x.bookOf(0, 3), 2);
        fill(x, 0, 0, -1, -1, -1, -1);
        Due.due("nothing more comes", x.read(0, 0, 0), 0);
        x.lay(0, 2, 0);
        Due.due("one is too many", x.read(0, 0, 0), FamilyNames.FULL);
        Due.due("bad ahead of full", x.read(0, 0, 3), FamilyNames.BAD);
        Due.due("as of another lane nothing comes", x.read(0, 0, 1), 0);
        FamilyNames most = book(64);
        most.sheet(0, 0, 64);
        Due.due("64 lines", most.read(0, 0, 0), FamilyNames.FULL);
        most.sheet(0, 0, 40);
        Due.due("forty at once", most.read(0, 0, 0), 40);
        Due.due("the rest is lost", most.bookOf(0, 3), 24);
    }

    private static void torn() {
        Due.promise(37, "The FAULT of the latest read() that came to an end;");
        FamilyNames x = book(4);
        x.read(0, 0, 0);
        Due.due("null", x.torn(), 1);
        Due.due("asked again", x.torn(), 1);
        Due.due("refused", x.read(9, 0, 0), FamilyNames.BAD);
        Due.due("null still", x.torn(), 1);
        x.hole(0, 1700, false);
        fill(x, 0, 0, 7);
        Due.due("refused", x.read(0, 0, 0), -20);
        Due.due("null still", x.torn(), 1);
        Due.due("lay's fault is not torn's", x.lay(0, 5, 0), -12);
        Due.due("sheet's fault is not torn's", x.sheet(1, 0, -5), -14);
        Due.due("null still", x.torn(), 1);
        Due.due("another", x.read(0, 0, 1), 0);
        Due.due("cast", x.torn(), 3);
        Due.promise(37, "0.");
        x.hole(0, 1700, false);
        x.lay(0, 0, 0);
        Due.due("came", x.read(0, 0, 0), 1);
        Due.due("no fault", x.torn(), 0);
        Due.due("a new object", new FamilyNames().torn(), 0);
        x.hole(0, 1701, false);
        x.read(0, 0, 0);
        Due.due("index", x.torn(), 2);
        for (int k = x.count(3); k < 40; k++) {
            x.line(0, 1700, 0, 0);
        }
        Due.due("full", x.read(0, 0, 0), FamilyNames.FULL);
        Due.due("index still", x.torn(), 2);
    }

    private static void counts() {
        Due.promise(38, "How many: 0 SPELLINGS, 1 PLACES, 2 BOOKS, 3 LINES, 4 readings behind the first ones,"
            + " 5 THE DAY,");
        FamilyNames x = book(4);
        x.place(1, 1);
        for (int b = 0; b < 3; b++) {
            x.book(1, 1700, 1700);
        }
        for (int k = 0; k < 5; k++) {
            x.line(0, 1700, 0, 0);
        }
        x.day(12);
        for (int r = 0; r < 6; r++) {
            x.again(0, 1 + r % 2);
        }
        int[] due = {3, 2, 4, 5, 6, 12};
        for (int what = 0; what < due.length; what++) {
            Due.due("count " + what, x.count(what), due[what]);
        }
        Due.promise(38, "BAD.");
        for (int what : new int[] {-1, 9, 10, Integer.MIN_VALUE, Integer.MAX_VALUE}) {
            Due.due("what " + what, x.count(what), FamilyNames.BAD);
        }
    }

    private static void countsOfNothing() {
        FamilyNames x = new FamilyNames();
        Due.promise(38, "7 bytes on THE TAPE,");
        Due.due("none", x.count(7), 0);
        x.feed(0);
        Due.due("eight", x.count(7), 8);
        x.end(3);
        Due.due("three", x.count(7), 3);
        x.rules();
        Due.due("none", x.count(7), 0);
        Due.promise(38, "8 CELLS of SHEET 0 (NONE: nothing).");
        Due.due("nothing", x.count(8), FamilyNames.NONE);
        x.sheet(1, 0, 3);
        Due.due("still nothing", x.count(8), FamilyNames.NONE);
        x.sheet(0, 0, 0);
        Due.due("no cells", x.count(8), 0);
        x.sheet(0, 2, 64);
        Due.due("64", x.count(8), 64);
        x.sheet(1, 0, 5);
        Due.due("64 still", x.count(8), 64);
    }

    private static void namesOfLines() {
        Due.promise(38, "6 NAMES that LINES have,");
        FamilyNames x = book(4);
        Due.due("no lines", x.count(6), 0);
        x.line(0, 1700, 1, 0);
        Due.due("one", x.count(6), 1);
        x.line(0, 1700, 0, 0);
        Due.due("of one name", x.count(6), 1);
        x.line(0, 1700, 2, 3);
        Due.due("two", x.count(6), 2);
        x.again(2, 0);
        Due.due("one name now", x.count(6), 1);
        x.again(0, 2);
        Due.due("the first line's too", x.count(6), 2);
        Due.tell(x, "other 0;drop 0;");
        Due.due("by the rules that hold", x.count(6), 1);
        FamilyNames most = new FamilyNames();
        most.place(0, 0);
        most.book(0, 1700, 1700);
        for (int s = 0; s < 16; s++) {
            most.spelling(s + 1);
            most.line(0, 1700, s, 0);
        }
        Due.tell(most, "join 3;");
        Due.due("sixteen", most.count(6), 16);
    }
}
