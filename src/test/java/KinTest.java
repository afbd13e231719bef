/** Promises 30 to 33: fathers, kin, related, issue. */
public final class KinTest {
    public static void main(String[] args) {
        father();
        kin();
        related();
        issue();
        longLine();
        Due.finish();
    }

    /** Lines 0 to 7, of the years 1600, 1615, 1615, 1630, 1630, 1645, 1614, 1660. */
    private static FamilyNames eightLines() {
        FamilyNames x = Due.withWords("a", "zzzzzz");
        x.place(0, 0);
        x.book(0, 1600, 1663);
        int[] years = {1600, 1615, 1615, 1630, 1630, 1645, 1614, 1660};
        for (int k = 0; k < years.length; k++) {
            Due.due("line " + k, x.line(0, years[k], k == 4 || k == 5 ? 1 : 0, 0), k);
        }
        return x;
    }

    private static FamilyNames family() {
        FamilyNames x = eightLines();
        int[][] fathers = {{1, 0}, {2, 0}, {3, 1}, {4, 2}, {5, 4}};
        for (int[] a : fathers) {
            Due.due("father " + a[0], x.father(a[0], a[1]), FamilyNames.NONE);
        }
        return x;
    }

    private static void father() {
        FamilyNames x = eightLines();
        Due.due("15 years", x.father(1, 0), FamilyNames.NONE);
        Due.due("told", x.lineOf(1, 5), 0);
        Due.due("14 years", x.father(6, 0), -6);
        Due.due("refused", x.lineOf(6, 5), FamilyNames.NONE);
        Due.due("itself", x.father(1, 1), -6);
        Due.due("the wrong way round", x.father(0, 1), -6);
        Due.due("another", x.father(5, 1), FamilyNames.NONE);
        Due.due("what it was", x.father(5, 3), 1);
        Due.due("what it was", x.father(5, 3), 3);
        Due.due("refused keeps it", x.father(5, 7), -6);
        Due.due("none", x.father(5, FamilyNames.NONE), 3);
        Due.due("none was", x.father(5, FamilyNames.NONE), FamilyNames.NONE);
        int[][] bad = {{8, 0}, {-1, 0}, {1, 8}, {1, -1}, {1, -3}, {1, -5}, {-4, -4}, {8, FamilyNames.NONE}};
        for (int[] a : bad) {
            Due.due("father " + a[0] + " " + a[1], x.father(a[0], a[1]), -5);
        }
        Due.due("still", x.lineOf(1, 5), 0);
    }

    private static void kin() {
        FamilyNames x = family();
        Due.due("itself", x.kin(7, 7), 0);
        Due.due("father", x.kin(1, 0), 1);
        Due.due("son", x.kin(0, 1), 1);
        Due.due("brothers", x.kin(1, 2), 2);
        Due.due("cousins", x.kin(3, 4), 4);
        Due.due("cousins' line", x.kin(3, 5), 5);
        Due.due("the other way round", x.kin(5, 3), 5);
        Due.due("uncle", x.kin(1, 4), 3);
        Due.due("the way up", x.kin(5, 0), 3);
        Due.due("by no fathers", x.kin(0, 7), FamilyNames.NONE);
        Due.due("by no fathers", x.kin(6, 5), FamilyNames.NONE);
        Due.due("no line", x.kin(8, 0), FamilyNames.BAD);
        Due.due("no line", x.kin(0, 8), FamilyNames.BAD);
        Due.due("no line", x.kin(-1, 0), FamilyNames.BAD);
        Due.due("no line", x.kin(0, -1), FamilyNames.BAD);
        x.father(2, FamilyNames.NONE);
        Due.due("no more", x.kin(3, 5), FamilyNames.NONE);
        Due.due("still", x.kin(2, 5), 2);
    }

    private static void related() {
        FamilyNames x = family();
        Due.due("both", x.related(1, 2), 3);
        Due.due("itself", x.related(7, 7), 3);
        Due.due("kin alone", x.related(3, 5), 2);
        Due.due("name alone", x.related(0, 7), 1);
        Due.due("nothing", x.related(7, 5), 0);
        x.again(5, 0);
        Due.due("by the latest reading", x.related(3, 5), 3);
        Due.tell(x, "other 0;drop 0;");
        Due.due("by the rules that hold", x.related(7, 4), 1);
        Due.due("no line", x.related(8, 0), FamilyNames.BAD);
        Due.due("no line", x.related(0, 8), FamilyNames.BAD);
        Due.due("no line", x.related(-1, 0), FamilyNames.BAD);
        Due.due("no line", x.related(0, -1), FamilyNames.BAD);
    }

    private static void issue() {
        FamilyNames x = family();
        int[][] due = {{5, 2, 3}, {1, 0, 1}, {2, 2, 2}, {0, 0, 0}, {1, 0, 1}, {0, 0, 0}, {0, 0, 0}, {0, 0, 0}};
        for (int k = 0; k < due.length; k++) {
            for (int what = 0; what < 3; what++) {
                Due.due("issue(" + k + ", " + what + ")", x.issue(k, what), due[k][what]);
            }
        }
        Due.due("what", x.issue(0, 3), FamilyNames.BAD);
        Due.due("what", x.issue(0, -1), FamilyNames.BAD);
        Due.due("no line", x.issue(8, 0), FamilyNames.BAD);
        Due.due("no line", x.issue(-1, 0), FamilyNames.BAD);
        x.again(0, 1);
        Due.due("of another name now", x.issue(0, 1), 3);
        FamilyNames y = Due.withWords("a", "zzzzzz");
        y.place(0, 0);
        y.book(0, 1600, 1663);
        y.line(0, 1650, 1, 0);
        y.line(0, 1600, 0, 0);
        y.father(0, 1);
        for (int what = 0; what < 3; what++) {
            Due.due("line 0 comes of line 1, " + what, y.issue(1, what), 1);
        }
    }

    /** From 1500 to 1899 there is room for 27 generations. */
    private static void longLine() {
        FamilyNames x = Due.withWords("a");
        x.place(0, 0);
        for (int b = 0; b < 7; b++) {
            x.book(0, 1500 + 60 * b, Math.min(1899, 1559 + 60 * b));
        }
        for (int k = 0; k < 27; k++) {
            Due.due("line " + k, x.line(k * 15 / 60, 1500 + 15 * k, 0, 0), k);
            if (k > 0) {
                Due.due("father " + k, x.father(k, k - 1), FamilyNames.NONE);
            }
        }
        Due.due("the whole way", x.kin(26, 0), 26);
        Due.due("all", x.issue(0, 0), 26);
        Due.due("most steps", x.issue(0, 2), 26);
        Due.due("another from the root", x.line(6, 1899, 0, 0), 27);
        x.father(27, 0);
        Due.due("two ways", x.kin(26, 27), 27);
    }
}
