/** Promises 30 to 33: fathers, kin, related, issue. */
public final class KinTest {
    private static final int[] NO_LINE = {8, -1, 40, Integer.MIN_VALUE, Integer.MAX_VALUE};

    public static void main(String[] args) {
        fifteenYears();
        father();
        fatherRefused();
        leastSteps();
        kin();
        related();
        relatedByWhatHolds();
        issue();
        issueOfAnotherName();
        mostSteps();
        longLine();
        Due.finish();
    }

    /** Lines 0 to 7, of the years 1600, 1615, 1615, 1630, 1630, 1645, 1614, 1660. */
    private static FamilyNames eightLines() {
        FamilyNames x = Due.withWords("a", "zzzzzz");
        x.place(0, 0);
        x.book(0, 1600, 1663);
        int[] years = {1600, 1615, 1615, 1630, 1630, 1645, 1614, 1660};
        for (int k = 0; k < years.length; k++) {
            Due.due("line " + k, x.line(0, years[k], k == 4 || k == 5 ? 1 : 0, 0), k);
        }
        return x;
    }

    /** Of 0 come 1 and 2, of 1 comes 3, of 2 comes 4, of 4 comes 5; 6 and 7 stand alone. */
    private static FamilyNames family() {
        FamilyNames x = eightLines();
        int[][] fathers = {{1, 0}, {2, 0}, {3, 1}, {4, 2}, {5, 4}};
        for (int[] a : fathers) {
            Due.due("father " + a[0], x.father(a[0], a[1]), FamilyNames.NONE);
        }
        return x;
    }

    private static void fifteenYears() {
        Due.terms("FATHER of a LINE: another LINE, of a year at least 15 ahead of it, told by hand.");
        FamilyNames x = eightLines();
        Due.due("none is told by itself", x.lineOf(1, 5), FamilyNames.NONE);
        Due.due("14 years", x.father(6, 0), -6);
        Due.due("15 years", x.father(1, 0), FamilyNames.NONE);
        Due.due("60 years", x.father(7, 0), FamilyNames.NONE);
        Due.due("itself", x.father(1, 1), -6);
        Due.due("of one year", x.father(2, 1), -6);
        Due.due("the wrong way round", x.father(0, 1), -6);
        x.book(0, 1560, 1599);
        x.line(1, 1585, 1, 3);
        Due.due("of another book, another name, copied, told later", x.father(0, 8), FamilyNames.NONE);
    }

    private static void father() {
        FamilyNames x = eightLines();
        Due.promise(30, "FATHER of a LINE becomes another LINE (NONE: none):");
        x.father(5, 1);
        Due.due("1", x.lineOf(5, 5), 1);
        x.father(5, 3);
        Due.due("3", x.lineOf(5, 5), 3);
        x.father(5, FamilyNames.NONE);
        Due.due("none", x.lineOf(5, 5), FamilyNames.NONE);
        x.father(5, 0);
        Due.due("0", x.lineOf(5, 5), 0);
        Due.promise(30, "what it was.");
        Due.due("0", x.father(5, 1), 0);
        Due.due("1", x.father(5, 1), 1);
        Due.due("1", x.father(5, FamilyNames.NONE), 1);
        Due.due("none", x.father(5, FamilyNames.NONE), FamilyNames.NONE);
        Due.due("none", x.father(5, 1), FamilyNames.NONE);
    }

    private static void fatherRefused() {
        FamilyNames x = family();
        Due.promise(30, "BAD -5;");
        for (int v : NO_LINE) {
            Due.due("line " + v, x.father(v, 0), -5);
            Due.due("father " + v, x.father(1, v), -5);
            Due.due("line " + v + ", none", x.father(v, FamilyNames.NONE), -5);
        }
        for (int f : new int[] {-2, -3, -5, -6}) {
            Due.due("father " + f, x.father(1, f), -5);
        }
        Due.due("line -4", x.father(-4, -4), -5);
        Due.due("still", x.lineOf(1, 5), 0);
        Due.promise(30, "STATE -6: its year is not at least 15 ahead.");
        Due.due("14 years", x.father(6, 0), -6);
        Due.due("still none", x.lineOf(6, 5), FamilyNames.NONE);
        Due.due("later", x.father(5, 7), -6);
        Due.due("still", x.lineOf(5, 5), 4);
        Due.due("his own son", x.father(0, 1), -6);
    }

    private static void leastSteps() {
        Due.terms("KIN of two LINES: the least sum of steps to a LINE that both come of (0: one and the same).");
        FamilyNames x = family();
        for (int k = 0; k < 8; k++) {
            Due.due("one and the same, " + k, x.kin(k, k), 0);
        }
        int[][] due = {{1, 0, 1}, {1, 2, 2}, {3, 4, 4}, {3, 5, 5}, {1, 4, 3}, {5, 0, 3}, {2, 5, 2}, {1, 3, 1}};
        for (int[] a : due) {
            Due.due("kin " + a[0] + " " + a[1], x.kin(a[0], a[1]), a[2]);
            Due.due("kin " + a[1] + " " + a[0], x.kin(a[1], a[0]), a[2]);
        }
    }

    private static void kin() {
        FamilyNames x = family();
        Due.promise(31, "KIN of two LINES.");
        Due.due("cousins", x.kin(3, 4), 4);
        Due.due("itself", x.kin(7, 7), 0);
        Due.promise(31, "BAD;");
        for (int v : NO_LINE) {
            Due.due("kin " + v + " 0", x.kin(v, 0), FamilyNames.BAD);
            Due.due("kin 0 " + v, x.kin(0, v), FamilyNames.BAD);
            Due.due("kin " + v + " twice", x.kin(v, v), FamilyNames.BAD);
        }
        Due.promise(31, "NONE: by no fathers.");
        Due.due("of one name", x.kin(0, 7), FamilyNames.NONE);
        Due.due("both without", x.kin(6, 7), FamilyNames.NONE);
        Due.due("with and without", x.kin(6, 5), FamilyNames.NONE);
        x.father(2, FamilyNames.NONE);
        Due.due("no more", x.kin(3, 5), FamilyNames.NONE);
        Due.due("still", x.kin(2, 5), 2);
    }

    private static void related() {
        Due.promise(32, "Of two LINES: 0 nothing, 1 ONE NAME alone, 2 KIN alone, 3 both.");
        FamilyNames x = family();
        Due.due("nothing", x.related(7, 5), 0);
        Due.due("name alone", x.related(0, 7), 1);
        Due.due("kin alone", x.related(3, 5), 2);
        Due.due("kin alone", x.related(5, 3), 2);
        Due.due("both", x.related(1, 2), 3);
        Due.due("itself", x.related(7, 7), 3);
        Due.promise(32, "BAD.");
        for (int v : NO_LINE) {
            Due.due("related " + v + " 0", x.related(v, 0), FamilyNames.BAD);
            Due.due("related 0 " + v, x.related(0, v), FamilyNames.BAD);
            Due.due("related " + v + " twice", x.related(v, v), FamilyNames.BAD);
        }
    }

    private static void relatedByWhatHolds() {
        Due.promise(32, "1 ONE NAME alone, 2 KIN alone,");
        FamilyNames x = family();
        x.again(5, 0);
        Due.due("by the latest reading", x.related(3, 5), 3);
        Due.tell(x, "other 0;drop 0;");
        Due.due("by the rules that hold", x.related(7, 4), 1);
        Due.due("by the rules that hold", x.related(3, 4), 3);
        x.father(4, FamilyNames.NONE);
        Due.due("by the fathers that hold", x.related(3, 4), 1);
    }

    private static void issue() {
        FamilyNames x = family();
        Due.promise(33, "How many LINES come of a LINE by fathers (what 0),");
        int[] due = {5, 1, 2, 0, 1, 0, 0, 0};
        for (int k = 0; k < due.length; k++) {
            Due.due("issue " + k, x.issue(k, 0), due[k]);
        }
        x.father(2, FamilyNames.NONE);
        Due.due("fewer now", x.issue(0, 0), 2);
        FamilyNames y = Due.withWords("a", "zzzzzz");
        y.place(0, 0);
        y.book(0, 1600, 1663);
        y.line(0, 1650, 1, 0);
        y.line(0, 1600, 0, 0);
        y.father(0, 1);
        for (int what = 0; what < 3; what++) {
            Due.due("line 0 comes of line 1, " + what, y.issue(1, what), 1);
        }
        Due.promise(33, "BAD.");
        for (int what : new int[] {3, -1, Integer.MIN_VALUE, Integer.MAX_VALUE}) {
            Due.due("what " + what, x.issue(0, what), FamilyNames.BAD);
        }
        for (int v : NO_LINE) {
            Due.due("line " + v, x.issue(v, 0), FamilyNames.BAD);
            Due.due("line " + v, x.issue(v, 2), FamilyNames.BAD);
        }
    }

    private static void issueOfAnotherName() {
        Due.promise(33, "how many of these are of another NAME (1),");
        FamilyNames x = family();
        int[] due = {2, 0, 2, 0, 0, 0, 0, 0};
        for (int k = 0; k < due.length; k++) {
            Due.due("issue " + k, x.issue(k, 1), due[k]);
        }
        x.again(0, 1);
        Due.due("its own name is another now", x.issue(0, 1), 3);
        Due.tell(x, "other 0;drop 0;");
        Due.due("all are of one name now", x.issue(0, 1), 0);
    }

    private static void mostSteps() {
        Due.promise(33, "the most steps to one of them (2).");
        FamilyNames x = family();
        int[] due = {3, 1, 2, 0, 1, 0, 0, 0};
        for (int k = 0; k < due.length; k++) {
            Due.due("issue " + k, x.issue(k, 2), due[k]);
        }
        x.father(7, 5);
        Due.due("one more", x.issue(0, 2), 4);
    }

    /** From 1500 to 1899 there is room for 27 generations. */
    private static void longLine() {
        Due.promise(31, "KIN of two LINES. BAD; NONE: by no fathers.");
        FamilyNames x = Due.withWords("a");
        x.place(0, 0);
        for (int b = 0; b < 7; b++) {
            x.book(0, 1500 + 60 * b, Math.min(1899, 1559 + 60 * b));
        }
        for (int k = 0; k < 27; k++) {
            Due.due("line " + k, x.line(k * 15 / 60, 1500 + 15 * k, 0, 0), k);
            if (k > 0) {
                Due.due("father " + k, x.father(k, k - 1), FamilyNames.NONE);
            }
        }
        Due.due("the whole way", x.kin(26, 0), 26);
        Due.due("all", x.issue(0, 0), 26);
        Due.due("most steps", x.issue(0, 2), 26);
        Due.due("another from the root", x.line(6, 1899, 0, 0), 27);
        x.father(27, 0);
        Due.due("two ways", x.kin(26, 27), 27);
    }
}
