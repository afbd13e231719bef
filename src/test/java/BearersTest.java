/** Promises 24 to 29: how many bore a name, where it began, how likely a line dies. */
public final class BearersTest {
    public static void main(String[] args) {
        worths();
        most();
        twoBooks();
        wrongAsks();
        byLatestReading();
        first();
        starts();
        startTies();
        judge();
        pace();
        dies();
        Due.finish();
    }

    private static FamilyNames threePlaces() {
        FamilyNames x = Due.withWords("a", "b", "zzzzzz");
        x.place(0, 0);
        x.place(3, 4);
        x.place(10, 0);
        for (int p = 0; p < 3; p++) {
            Due.due("book " + p, x.book(p, 1600, 1663), p);
        }
        return x;
    }

    private static void worths() {
        int[] worth = {2, 1, 2, 0, 1};
        for (int kind = 0; kind < 5; kind++) {
            for (int many = 1; many <= 3; many++) {
                FamilyNames x = threePlaces();
                for (int i = 0; i < many; i++) {
                    x.line(0, 1610, i % 2, kind);
                }
                x.line(0, 1610, 2, 0);
                int sum = worth[kind] * many;
                Due.due("least of kind " + kind, x.bearers(1, 0, 1610, 1610, 0), sum / 2);
                Due.due("most of kind " + kind, x.bearers(1, 0, 1610, 1610, 1), (sum + 1) / 2);
                Due.due("another place", x.bearers(0, 1, 1610, 1610, 0), 0);
                Due.due("other years", x.bearers(0, 0, 1611, 1663, 0), 0);
                Due.due("other years", x.bearers(0, 0, 1600, 1609, 0), 0);
            }
        }
    }

    private static void most() {
        FamilyNames x = threePlaces();
        x.line(0, 1600, 0, 0);
        x.line(0, 1602, 0, 1);
        Due.due("readable", x.bearers(0, 0, 1590, 1609, 2), 10);
        Due.due("least", x.bearers(0, 0, 1590, 1609, 0), 1);
        Due.due("most: 3 * 20 / 20", x.bearers(0, 0, 1590, 1609, 1), 3);
        Due.due("most: 3 * 21 / 20, up", x.bearers(0, 0, 1589, 1609, 1), 4);
        x.hole(0, 1601, true);
        x.hole(0, 1603, true);
        Due.due("readable without holes", x.bearers(0, 0, 1600, 1603, 2), 2);
        Due.due("most: 3 * 4 / 4", x.bearers(0, 0, 1600, 1603, 1), 3);
        Due.due("nothing read", x.bearers(0, 0, 1601, 1601, 1), FamilyNames.NONE);
        Due.due("nothing read", x.bearers(0, 0, 1601, 1601, 0), 0);
        Due.due("nothing read", x.bearers(0, 0, 1601, 1601, 2), 0);
        Due.due("read, none bore it", x.bearers(2, 0, 1602, 1602, 1), 0);
        Due.due("all years", x.bearers(0, 0, 1500, 1899, 2), 62);
        Due.due("all years", x.bearers(0, 0, 1500, 1899, 1), (3 * 400 + 123) / 124);
        x.place(9, 9);
        Due.due("no book", x.bearers(0, 3, 1500, 1899, 1), FamilyNames.NONE);
        Due.due("no book", x.bearers(0, 3, 1500, 1899, 0), 0);
    }

    private static void twoBooks() {
        FamilyNames x = threePlaces();
        x.book(0, 1600, 1609);
        x.line(0, 1600, 0, 0);
        x.line(3, 1600, 0, 0);
        x.line(3, 1601, 0, 1);
        Due.due("counts twice", x.bearers(0, 0, 1600, 1604, 2), 10);
        Due.due("T is R at least", x.bearers(0, 0, 1600, 1604, 1), 3);
        Due.due("least", x.bearers(0, 0, 1600, 1604, 0), 2);
        x.hole(3, 1602, true);
        Due.due("a hole of one", x.bearers(0, 0, 1600, 1604, 2), 9);
        Due.due("T above R", x.bearers(0, 0, 1590, 1604, 1), (5 * 15 + 17) / 18);
    }

    private static void wrongAsks() {
        FamilyNames x = threePlaces();
        int[][] bad = {{3, 0, 1600, 1600, 0}, {-1, 0, 1600, 1600, 0}, {0, 3, 1600, 1600, 0}, {0, -1, 1600, 1600, 0},
            {0, 0, 1499, 1600, 0}, {0, 0, 1600, 1900, 0}, {0, 0, 1601, 1600, 0}, {0, 0, 1600, 1600, -1},
            {0, 0, 1600, 1600, 3}, {0, 0, 1500, 1499, 1}, {0, 0, 1900, 1900, 1}};
        for (int[] a : bad) {
            Due.due("bearers " + a[0] + " " + a[1] + " " + a[2] + " " + a[3] + " " + a[4],
                x.bearers(a[0], a[1], a[2], a[3], a[4]), FamilyNames.BAD);
        }
    }

    private static void byLatestReading() {
        FamilyNames x = threePlaces();
        x.line(0, 1610, 0, 0);
        x.day(4);
        x.again(0, 2);
        Due.due("no longer", x.bearers(0, 0, 1600, 1620, 0), 0);
        Due.due("but now", x.bearers(2, 0, 1600, 1620, 0), 1);
        Due.due("no longer", x.first(1, 0), FamilyNames.NONE);
        Due.due("but now", x.first(2, 0), 1610);
        Due.tell(x, "other 0;drop 0;");
        Due.due("by the rules that hold", x.first(1, 0), 1610);
    }

    private static void first() {
        FamilyNames x = threePlaces();
        Due.due("no lines", x.first(0, 0), FamilyNames.NONE);
        x.line(0, 1605, 0, 3);
        Due.due("copied ones do not count", x.first(0, 0), FamilyNames.NONE);
        x.line(0, 1620, 0, 4);
        Due.due("doubted ones do", x.first(0, 0), 1620);
        x.line(0, 1610, 1, 1);
        Due.due("heard, of the name", x.first(0, 0), 1610);
        x.line(0, 1650, 0, 2);
        Due.due("the first", x.first(1, 0), 1610);
        Due.due("another name", x.first(2, 0), FamilyNames.NONE);
        Due.due("another place", x.first(0, 1), FamilyNames.NONE);
        x.book(0, 1550, 1599);
        x.line(3, 1599, 0, 0);
        Due.due("another book", x.first(0, 0), 1599);
        Due.due("no spelling", x.first(3, 0), FamilyNames.BAD);
        Due.due("no spelling", x.first(-1, 0), FamilyNames.BAD);
        Due.due("no place", x.first(0, 3), FamilyNames.BAD);
        Due.due("no place", x.first(0, -1), FamilyNames.BAD);
    }

    private static void startsAre(FamilyNames x, int s, int... due) {
        for (int what = 0; what < 4; what++) {
            Due.due("starts(" + s + ", " + what + ")", x.starts(s, what), due[what]);
        }
    }

    private static void starts() {
        FamilyNames x = threePlaces();
        startsAre(x, 0, 0, 0, 0, 0);
        Due.due("what", x.starts(0, -1), FamilyNames.BAD);
        Due.due("what", x.starts(0, 4), FamilyNames.BAD);
        Due.due("no spelling", x.starts(3, 0), FamilyNames.BAD);
        Due.due("no spelling", x.starts(-1, 0), FamilyNames.BAD);
        x.line(0, 1600, 0, 0);
        startsAre(x, 0, 1, 1, 1, 1);
        startsAre(x, 2, 0, 0, 0, 0);
        // 7 times 10 by 5 is 14 years.
        x.line(1, 1614, 1, 0);
        startsAre(x, 0, 1, 1, 3, 1);
        Due.tell(x, "miles 4;");
        // 70 by 4 is 18 when divided up.
        startsAre(x, 0, 2, 3, 3, 3);
        x.again(1, 2);
        x.line(1, 1618, 0, 0);
        startsAre(x, 0, 1, 1, 3, 1);
        x.line(2, 1618, 0, 3);
        startsAre(x, 0, 1, 1, 3, 1);
        x.line(2, 1618, 0, 4);
        startsAre(x, 0, 2, 5, 7, 5);
        Due.tell(x, "miles 20;");
        startsAre(x, 0, 1, 1, 7, 1);
    }

    private static void startTies() {
        FamilyNames x = Due.withWords("a");
        x.place(7, 7);
        x.place(0, 0);
        x.place(0, 0);
        x.place(50, 50);
        for (int p = 0; p < 4; p++) {
            x.book(p, 1700, 1763);
        }
        x.line(1, 1700, 0, 0);
        x.line(2, 1700, 0, 0);
        // Either of the two at one spot lets the other one come.
        startsAre(x, 0, 1, 2, 6, 0);
        x.line(3, 1700, 0, 0);
        startsAre(x, 0, 2, 10, 14, 8);
        x.line(0, 1763, 0, 0);
        startsAre(x, 0, 2, 10, 15, 8);
        for (int set : new int[] {10, 12, 14, 15, 11}) {
            Due.due("judge " + set, x.judge(0, set), 1);
        }
        for (int set : new int[] {0, 1, 2, 4, 6, 8, 9, 3, 7}) {
            Due.due("judge " + set, x.judge(0, set), 0);
        }
    }

    private static void judge() {
        FamilyNames x = threePlaces();
        Due.due("nothing to come", x.judge(0, 0), 1);
        Due.due("no first", x.judge(0, 1), FamilyNames.STATE);
        Due.due("no such places", x.judge(0, 8), FamilyNames.BAD);
        Due.due("no such places", x.judge(0, 9), FamilyNames.BAD);
        Due.due("below 0", x.judge(0, -1), FamilyNames.BAD);
        Due.due("below 0", x.judge(0, Integer.MIN_VALUE), FamilyNames.BAD);
        Due.due("no spelling", x.judge(3, 0), FamilyNames.BAD);
        Due.due("no spelling", x.judge(-1, 0), FamilyNames.BAD);
        x.line(0, 1600, 0, 0);
        x.line(1, 1614, 0, 0);
        Due.due("empty", x.judge(0, 0), 0);
        Due.due("the first", x.judge(0, 1), 1);
        Due.due("the later", x.judge(0, 2), 0);
        Due.due("both", x.judge(0, 3), 1);
        Due.due("one has no first", x.judge(0, 7), FamilyNames.STATE);
        FamilyNames none = Due.withWords("a");
        Due.due("no places", none.judge(0, 0), 1);
        Due.due("no places", none.judge(0, 1), FamilyNames.BAD);
    }

    private static void pace() {
        FamilyNames x = threePlaces();
        Due.due("no first", x.pace(0), FamilyNames.NONE);
        Due.due("no spelling", x.pace(3), FamilyNames.BAD);
        Due.due("no spelling", x.pace(-1), FamilyNames.BAD);
        x.line(0, 1620, 0, 0);
        Due.due("alone", x.pace(0), 1);
        x.line(1, 1624, 0, 0);
        // 70 by 18 is 4 when divided up, by 17 it is 5.
        Due.due("two", x.pace(0), 18);
        Due.tell(x, "miles 1;");
        Due.due("whatever miles hold", x.pace(0), 18);
        x.line(2, 1625, 0, 0);
        Due.due("100 by 20 is 5", x.pace(0), 20);
        x.line(1, 1623, 0, 0);
        Due.due("none up to 20", x.pace(0), FamilyNames.NONE);
        FamilyNames far = Due.withWords("a");
        far.place(0, 0);
        far.place(42, 0);
        far.book(0, 1600, 1663);
        far.book(1, 1600, 1663);
        far.line(0, 1600, 0, 0);
        far.line(1, 1620, 0, 0);
        Due.due("420 by 21 is 20, but that is too fast", far.pace(0), FamilyNames.NONE);
        FamilyNames spot = Due.withWords("a");
        spot.place(1, 1);
        spot.place(1, 1);
        spot.book(0, 1600, 1600);
        spot.book(1, 1600, 1600);
        spot.line(0, 1600, 0, 0);
        spot.line(1, 1600, 0, 0);
        Due.due("one spot", spot.pace(0), 1);
    }

    private static void diesAre(String sons, long... due) {
        FamilyNames x = new FamilyNames();
        Due.due(sons, Due.tell(x, sons), 1);
        for (int g = 1; g <= 3; g++) {
            Due.due(sons + " numerator " + g, x.dies(g, 0), due[2 * g - 2]);
            Due.due(sons + " denominator " + g, x.dies(g, 1), due[2 * g - 1]);
        }
    }

    private static void dies() {
        FamilyNames x = new FamilyNames();
        Due.due("three", x.dies(3, 0), 24811501L);
        Due.due("three", x.dies(3, 1), 67108864L);
        for (int g : new int[] {0, 4, -1, Integer.MAX_VALUE}) {
            Due.due("generations", x.dies(g, 0), FamilyNames.BAD);
        }
        Due.due("what", x.dies(1, -1), FamilyNames.BAD);
        Due.due("what", x.dies(1, 2), FamilyNames.BAD);
        diesAre("sons 9 0 0 0;", 1, 1, 1, 1, 1, 1);
        diesAre("sons 0 0 0 9;", 0, 1, 0, 1, 0, 1);
        diesAre("sons 0 9 0 0;", 0, 1, 0, 1, 0, 1);
        diesAre("sons 1 0 1 0;", 1, 2, 5, 8, 89, 128);
        diesAre("sons 2 4 2 0;", 1, 4, 25, 64, 7921, 16384);
        diesAre("sons 1 0 0 8;", 1, 9, 737, 6561, 285632060905L, 2541865828329L);
        diesAre("sons 1 2 3 3;", 1, 9, 307, 2187, 4700755729L, 31381059609L);
        diesAre("sons 3 2 1 0;", 1, 2, 17, 24, 2833, 3456);
    }
}
