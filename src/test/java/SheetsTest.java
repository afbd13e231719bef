/** Promises 34 to 38: sheets, what the machine finds, books read from sheets, counts. */
public final class SheetsTest {
    public static void main(String[] args) {
        sheet();
        lay();
        lanes();
        read();
        readFaults();
        readRefused();
        readFull();
        readHoles();
        torn();
        counts();
        Due.finish();
    }

    private static FamilyNames book(int years) {
        FamilyNames x = Due.withWords("a", "b", "zzzzzz");
        x.place(0, 0);
        Due.due("book", x.book(0, 1700, 1699 + years), 0);
        return x;
    }

    private static void fill(FamilyNames x, int k, int lane, int... cells) {
        Due.due("sheet", x.sheet(k, lane, cells.length), 1);
        for (int i = 0; i < cells.length; i++) {
            Due.due("lay " + i, x.lay(k, i, cells[i]), 1);
        }
    }

    private static void sheet() {
        FamilyNames x = new FamilyNames();
        int[][] bad = {{-1, 0, 1}, {4, 0, 1}, {0, -1, 1}, {0, 3, 1}, {0, 0, 65}, {0, 0, Integer.MAX_VALUE},
            {4, 0, -1}, {0, 3, -1}};
        for (int[] a : bad) {
            Due.due("sheet " + a[0] + " " + a[1] + " " + a[2], x.sheet(a[0], a[1], a[2]), FamilyNames.BAD);
        }
        Due.due("size", x.sheet(0, 0, -1), -14);
        Due.due("size", x.sheet(0, 2, Integer.MIN_VALUE), -14);
        Due.due("still nothing", x.count(8), FamilyNames.NONE);
        Due.due("no cells", x.sheet(0, 0, 0), 1);
        Due.due("no cells", x.count(8), 0);
        Due.due("64", x.sheet(0, 1, 64), 1);
        Due.due("64", x.count(8), 64);
        Due.due("refused", x.sheet(0, 1, -1), -14);
        Due.due("refused", x.sheet(0, 1, 65), FamilyNames.BAD);
        Due.due("it stays", x.count(8), 64);
        Due.due("another sheet", x.sheet(3, 2, 5), 1);
        Due.due("it stays", x.count(8), 64);
    }

    private static void lay() {
        FamilyNames x = book(3);
        Due.due("no sheet", x.lay(-1, 0, 0), FamilyNames.BAD);
        Due.due("no sheet", x.lay(4, 0, 0), FamilyNames.BAD);
        Due.due("nothing", x.lay(0, 0, 0), -11);
        Due.due("nothing, ahead of the index", x.lay(0, -1, 0), -11);
        x.sheet(0, 2, 3);
        Due.due("index", x.lay(0, -1, 0), -12);
        Due.due("index", x.lay(0, 3, 0), -12);
        Due.due("index", x.lay(0, Integer.MIN_VALUE, 0), -12);
        Due.due("laid", x.lay(0, 2, 2), 1);
        Due.due("cells are 0 at first", x.read(0, 0, 2), 3);
        Due.due("cells are 0 at first", x.lineOf(0, 2), 0);
        Due.due("what was laid", x.lineOf(2, 2), 2);
        x.lay(0, 0, 9);
        x.sheet(0, 2, 3);
        Due.due("a new row is 0 again", x.read(0, 0, 2), 3);
        Due.due("a new row is 0 again", x.lineOf(5, 2), 0);
        x.sheet(0, 2, 0);
        Due.due("no cells", x.lay(0, 0, 0), -12);
    }

    private static void lanes() {
        int[][] cells = {{256 + 1, -1 - 256, 128, 255}, {65536 + 1, -1 - 65536, 32768, 65535}};
        for (int lane = 0; lane < 2; lane++) {
            FamilyNames x = book(4);
            fill(x, 0, lane, cells[lane][0], cells[lane][1], -1, cells[lane][3]);
            Due.due("its lowest bits, lane " + lane, x.read(0, 0, lane), 1);
            Due.due("its lowest bits, lane " + lane, x.lineOf(0, 2), 1);
            x.lay(0, 2, cells[lane][2]);
            Due.due("below 0, lane " + lane, x.read(0, 0, lane), -22);
        }
        FamilyNames x = book(2);
        fill(x, 0, 2, 65536 + 1, 0);
        Due.due("ints keep all", x.read(0, 0, 2), -20);
        x.lay(0, 0, Integer.MIN_VALUE);
        Due.due("ints keep all", x.read(0, 0, 2), -20);
        fill(x, 1, 1, 256 + 1, 0);
        Due.due("shorts keep more", x.read(0, 1, 1), -20);
    }

    private static void read() {
        FamilyNames x = book(5);
        x.day(6);
        fill(x, 2, 0, 1, -1, 0, 2, -1, 9, 9);
        x.line(0, 1702, 0, 1);
        Due.due("came", x.read(0, 2, 0), 3);
        Due.due("no fault", x.torn(), 0);
        int[][] due = {{0, 1700, 1, 0, 0, -4, 1, 6}, {0, 1702, 0, 0, 0, -4, 1, 6}, {0, 1703, 2, 0, 2, -4, 1, 6}};
        for (int i = 0; i < due.length; i++) {
            for (int what = 0; what < 8; what++) {
                Due.due("line " + i + ", " + what, x.lineOf(1 + i, what), due[i][what]);
            }
        }
        Due.due("no holes", x.bookOf(0, 3), 0);
        Due.due("lines", x.bookOf(0, 4), 4);
        Due.due("no book", x.read(1, 2, 0), FamilyNames.BAD);
        Due.due("no book", x.read(-1, 2, 0), FamilyNames.BAD);
        Due.due("no sheet", x.read(0, 4, 0), FamilyNames.BAD);
        Due.due("no sheet", x.read(0, -1, 0), FamilyNames.BAD);
        Due.due("no lane", x.read(0, 2, 3), FamilyNames.BAD);
        Due.due("no lane", x.read(0, 2, -1), FamilyNames.BAD);
    }

    private static void readFaults() {
        FamilyNames x = book(5);
        x.line(0, 1704, 0, 0);
        fill(x, 0, 1, 1, -1, 0);
        Due.due("came ahead", x.read(0, 0, 1), 2);
        Due.due("index", x.torn(), 2);
        Due.due("the years behind without lines", x.bookOf(0, 3), 1);
        Due.due("the hole", x.line(0, 1703, 0, 0), FamilyNames.STATE);
        Due.due("nothing ahead became one", x.line(0, 1701, 0, 0), 3);
        Due.due("latest", x.bookOf(0, 5), 1704);
        for (int lane = 0; lane < 3; lane++) {
            FamilyNames y = book(5);
            y.line(0, 1702, 0, 0);
            Due.due("nothing", y.read(0, 3, lane), 0);
            Due.due("null", y.torn(), 1);
            Due.due("all without lines", y.bookOf(0, 3), 4);
            for (int other = 0; other < 3; other++) {
                FamilyNames z = book(2);
                fill(z, 0, lane, 9, 9);
                Due.due("lane " + lane + " as " + other, z.read(0, 0, other), lane == other ? -20 : 0);
                Due.due("cast", z.torn(), lane == other ? 0 : 3);
                Due.due("cast", z.bookOf(0, 3), lane == other ? 0 : 2);
            }
        }
        FamilyNames empty = book(64);
        empty.sheet(0, 0, 0);
        Due.due("no cells", empty.read(0, 0, 0), 0);
        Due.due("no cells", empty.torn(), 2);
        Due.due("all", empty.bookOf(0, 3), 64);
        Due.due("none", empty.bookOf(0, 5), FamilyNames.NONE);
        empty.sheet(0, 0, 64);
        Due.due("all passed over", empty.read(0, 0, 0), 0);
        Due.due("all passed over", empty.torn(), 0);
        FamilyNames cast = book(3);
        cast.sheet(0, 0, 0);
        cast.read(0, 0, 1);
        Due.due("cast ahead of index", cast.torn(), 3);
    }

    private static void readRefused() {
        FamilyNames x = book(6);
        fill(x, 0, 2, 0, 1, 3, 4);
        Due.due("the first that is none", x.read(0, 0, 2), -22);
        Due.due("nothing came", x.count(3), 0);
        Due.due("nothing is a hole", x.bookOf(0, 3), 0);
        x.lay(0, 2, -2);
        Due.due("below -1", x.read(0, 0, 2), -22);
        x.lay(0, 2, -1);
        Due.due("the next", x.read(0, 0, 2), -23);
        x.hole(0, 1703, true);
        Due.due("passed over", x.read(0, 0, 2), 2);
        Due.due("index at 4", x.torn(), 2);
        Due.due("holes", x.bookOf(0, 3), 3);
        Due.due("as of another lane: not looked at", x.read(0, 0, 1), 0);
        Due.due("cast", x.torn(), 3);
    }

    private static void readFull() {
        FamilyNames x = book(6);
        for (int k = 0; k < 37; k++) {
            x.line(0, 1700, 0, 0);
        }
        fill(x, 0, 0, 0, 0, 0, 0);
        Due.due("four are too many", x.read(0, 0, 0), FamilyNames.FULL);
        Due.due("nothing came", x.count(3), 37);
        Due.due("nothing is a hole", x.bookOf(0, 3), 0);
        Due.due("torn stays", x.torn(), 0);
        x.lay(0, 3, 3);
        Due.due("no spelling ahead of full", x.read(0, 0, 0), -23);
        x.lay(0, 3, -1);
        Due.due("three fit", x.read(0, 0, 0), 3);
        Due.due("forty", x.count(3), 40);
        Due.due("index", x.torn(), 2);
        Due.due("holes", x.bookOf(0, 3), 2);
        fill(x, 0, 0, -1, -1, -1, -1);
        Due.due("nothing more comes", x.read(0, 0, 0), 0);
    }

    private static void readHoles() {
        FamilyNames x = book(4);
        x.hole(0, 1701, true);
        x.hole(0, 1703, true);
        fill(x, 0, 0, 0, 1, 2);
        Due.due("holes are passed over", x.read(0, 0, 0), 2);
        Due.due("what is passed over is not asked for", x.torn(), 0);
        Due.due("years", x.lineOf(1, 1), 1702);
        Due.due("spelling", x.lineOf(1, 2), 2);
    }

    private static void torn() {
        FamilyNames x = book(4);
        x.read(0, 0, 0);
        Due.due("null", x.torn(), 1);
        Due.due("refused", x.read(9, 0, 0), FamilyNames.BAD);
        Due.due("null still", x.torn(), 1);
        x.hole(0, 1700, false);
        fill(x, 0, 0, 7);
        Due.due("refused", x.read(0, 0, 0), -20);
        Due.due("null still", x.torn(), 1);
        Due.due("lay's fault is not torn's", x.lay(0, 5, 0), -12);
        Due.due("null still", x.torn(), 1);
        x.lay(0, 0, 0);
        Due.due("came", x.read(0, 0, 0), 1);
        Due.due("no fault", x.torn(), 0);
    }

    private static void counts() {
        FamilyNames x = book(4);
        x.place(1, 1);
        x.book(1, 1700, 1700);
        x.line(0, 1700, 0, 0);
        x.line(0, 1700, 1, 0);
        x.line(0, 1700, 2, 3);
        x.day(12);
        x.again(0, 1);
        Due.type(x, "drop 1; ");
        x.sheet(0, 0, 17);
        x.sheet(1, 0, 3);
        int[] due = {3, 2, 2, 3, 1, 12, 2, 8, 17};
        for (int what = 0; what < due.length; what++) {
            Due.due("count " + what, x.count(what), due[what]);
        }
        x.again(2, 0);
        Due.due("one name now", x.count(6), 1);
        x.again(0, 2);
        Due.due("the first line's too", x.count(6), 2);
        Due.due("what", x.count(-1), FamilyNames.BAD);
        Due.due("what", x.count(9), FamilyNames.BAD);
    }
}
