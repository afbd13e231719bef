import java.util.List;
import java.util.Random;
import java.util.function.IntUnaryOperator;

/** The sentences under 'Terms' that speak for every method, and what a refused call leaves as it was. */
public final class TermsTest {
    private static final int[] FAR = {Integer.MIN_VALUE, Integer.MIN_VALUE + 1, -1000, -2, -1, 64, 1000,
        Integer.MAX_VALUE - 1, Integer.MAX_VALUE};

    public static void main(String[] args) {
        manyCalls();
        answers();
        noSuchSpelling();
        noSuchPlace();
        noSuchBook();
        noSuchLine();
        noSuchSheet();
        theFirstThatFits();
        refusedChangesNothing();
        refusedAtTheLimits();
        theTapeIsEmptied();
        refusedByChance();
        divided();
        Due.finish();
    }

    /** Something of everything, with faults behind it, and a text and cells that wait. */
    private static FamilyNames some() {
        FamilyNames x = new FamilyNames();
        for (String word : new String[] {"abc", "abd", "xyz", "xyw", "aed"}) {
            x.spelling(Due.word(word));
        }
        Due.tell(x, "drop 2;other 5;join 5;miles 6;sons 1 2 3 1;say x q;mute w;like c d 1;");
        Due.tell(x, "drop 1;drop 1;");
        Due.type(x, "join 9;");
        x.place(1, 2);
        x.place(5, 9);
        x.place(40, 40);
        x.book(0, 1600, 1609);
        x.book(0, 1605, 1660);
        x.book(1, 1610, 1660);
        x.hole(0, 1609, true);
        x.hole(2, 1612, true);
        int[][] lines = {{0, 1600, 0, 0}, {1, 1620, 1, 1}, {1, 1640, 4, 2}, {2, 1615, 0, 3}, {2, 1618, 2, 4}, {2, 1650, 3, 0}};
        for (int[] a : lines) {
            x.line(a[0], a[1], a[2], a[3]);
        }
        x.day(5);
        x.again(1, 2);
        x.again(5, 0);
        x.father(1, 0);
        x.father(2, 1);
        x.sheet(0, 1, 3);
        x.lay(0, 1, 4);
        x.lay(0, 2, -1);
        x.sheet(1, 0, 0);
        x.sheet(2, 2, 6);
        x.lay(2, 0, 9);
        x.hole(1, 1605, true);
        x.read(1, 1, 2);
        return x;
    }

    /** As much of everything as there may be. */
    private static FamilyNames full() {
        FamilyNames x = new FamilyNames();
        for (int s = 0; s < 16; s++) {
            x.spelling(Due.word("abcdefgh") + 1024 * (s % 4) + s / 4);
        }
        for (int p = 0; p < 8; p++) {
            x.place(p, 9 - p);
            x.book(p, 1600 + p, 1650);
            x.hole(p, 1650, true);
        }
        for (int k = 0; k < 40; k++) {
            x.line(k % 8, 1610 + k, k % 16, k % 5);
            x.father(k, k - 16);
        }
        x.day(999);
        for (int r = 0; r < 60; r++) {
            x.again(r % 40, (r % 40 + 1 + r / 40) % 16);
        }
        for (int k = 0; k < 4; k++) {
            x.sheet(k, k % 3, 64);
        }
        Due.tell(x, "!");
        for (int i = 0; i < 25; i++) {
            x.feed(i == 24 ? 0x6a6f696e20393b20L : 0x2020202020202020L);
        }
        return x;
    }

    private static void manyCalls() {
        Due.opening("An object is used for at most 512 calls after it has been made; what later calls answer is free.");
        FamilyNames x = new FamilyNames();
        int calls = 0;
        for (; calls < 16; calls++) {
            Due.due("spelling", x.spelling(calls + 1), calls);
        }
        Due.due("place", x.place(1, 1), 0);
        Due.due("book", x.book(0, 1600, 1663), 0);
        for (int k = 0; k < 40; k++) {
            Due.due("line", x.line(0, 1600 + k, k % 16, 0), k);
        }
        for (int r = 0; r < 60; r++) {
            Due.due("again", x.again(r % 40, (r + 2) % 16), 2 + r / 40);
        }
        for (calls += 102; calls < 510; calls++) {
            Due.due("call " + (calls + 1), x.lineOf(calls % 40, 1), 1600 + calls % 40);
        }
        Due.due("call 511", x.count(4), 60);
        Due.due("call 512", x.standing(0), 1);
    }

    private static void answers() {
        Due.terms("Answers: BAD -1 (a number is not as told,");
        Due.due("BAD", FamilyNames.BAD, -1);
        FamilyNames x = some();
        for (int v : FAR) {
            Due.due("what of a rule " + v, x.rule(v), -1);
            Due.due("what of a book " + v, x.bookOf(0, v), -1);
            Due.due("x of a place " + v, x.place(v == 64 ? 100 : v, 0), -1);
            Due.due("kind of a line " + v, x.line(0, 1600, 0, v), -1);
            Due.due("lane of a sheet " + v, x.sheet(0, v, 1), -1);
        }
        Due.terms("STATE -2 (as told),");
        Due.due("STATE", FamilyNames.STATE, -2);
        Due.due("a hole", x.line(0, 1609, 0, 0), -2);
        Due.terms("FULL -3,");
        Due.due("FULL", FamilyNames.FULL, -3);
        Due.due("full", full().place(1, 1), -3);
        Due.terms("NONE -4 (there is none),");
        Due.due("NONE", FamilyNames.NONE, -4);
        Due.due("no father", x.lineOf(0, 5), -4);
    }

    private static void isBad(String what, int number, int bad, IntUnaryOperator... calls) {
        for (int i = 0; i < calls.length; i++) {
            Due.due(what + " " + number + ", call " + i, calls[i].applyAsInt(number), bad);
        }
    }

    private static void noSuchSpelling() {
        Due.terms("there is no such SPELLING,");
        FamilyNames none = new FamilyNames(), some = some(), full = full();
        spellingIsBad(none, 0);
        spellingIsBad(some, 5);
        spellingIsBad(full, 16);
        for (int s : FAR) {
            spellingIsBad(some, s);
        }
        Due.due("the last of some", some.letters(4), Due.word("aed"));
        Due.due("the last of all", full.name(15) >= 0 ? 1 : 0, 1);
    }

    private static void spellingIsBad(FamilyNames x, int number) {
        isBad("spelling", number, FamilyNames.BAD, s -> (int) x.letters(s), s -> (int) x.sound(s), x::sounds,
            s -> x.apart(s, 0), s -> x.apart(0, s), x::name, s -> x.chain(s, 0, 0), s -> x.chain(0, s, 10),
            s -> x.line(0, 1600, s, 0), s -> x.again(0, s), s -> x.bearers(s, 0, 1600, 1601, 0),
            s -> x.first(s, 0), s -> x.starts(s, 0), s -> x.judge(s, 0), x::pace);
    }

    private static void noSuchPlace() {
        Due.terms("no such SPELLING, PLACE,");
        placeIsBad(new FamilyNames(), 0);
        placeIsBad(some(), 3);
        placeIsBad(full(), 8);
        for (int p : FAR) {
            placeIsBad(some(), p);
        }
        Due.due("the last one", some().first(0, 2), FamilyNames.NONE);
    }

    private static void placeIsBad(FamilyNames x, int number) {
        isBad("place", number, FamilyNames.BAD, p -> x.book(p, 1600, 1601), p -> x.bearers(0, p, 1600, 1601, 1),
            p -> x.first(0, p));
    }

    private static void noSuchBook() {
        Due.terms("SPELLING, PLACE, BOOK,");
        bookIsBad(new FamilyNames(), 0);
        bookIsBad(some(), 3);
        bookIsBad(full(), 8);
        for (int b : FAR) {
            bookIsBad(some(), b);
        }
        Due.due("the last one", some().bookOf(2, 0), 1);
    }

    private static void bookIsBad(FamilyNames x, int number) {
        isBad("book", number, FamilyNames.BAD, b -> x.hole(b, 1600, true), b -> x.bookOf(b, 0),
            b -> x.line(b, 1600, 0, 0), b -> x.read(b, 0, 0));
    }

    private static void noSuchLine() {
        Due.terms("PLACE, BOOK, LINE,");
        lineIsBad(new FamilyNames(), 0);
        lineIsBad(some(), 6);
        lineIsBad(full(), 40);
        for (int k : FAR) {
            lineIsBad(some(), k);
        }
        Due.due("the last one", some().lineOf(5, 1), 1650);
    }

    private static void lineIsBad(FamilyNames x, int number) {
        isBad("line", number, FamilyNames.BAD, k -> x.again(k, 0), k -> x.lineOf(k, 0), k -> x.known(k, 0),
            k -> x.kin(k, 0), k -> x.kin(0, k), k -> x.related(k, 0), k -> x.related(0, k), k -> x.issue(k, 0));
        isBad("line", number, -5, k -> x.father(k, 0), k -> x.father(0, k), k -> x.father(k, FamilyNames.NONE));
    }

    private static void noSuchSheet() {
        Due.terms("BOOK, LINE, SHEET),");
        sheetIsBad(some(), 4);
        for (int k : FAR) {
            sheetIsBad(some(), k);
        }
        Due.due("the last one", some().sheet(3, 0, 1), 1);
    }

    private static void sheetIsBad(FamilyNames x, int number) {
        isBad("sheet", number, FamilyNames.BAD, k -> x.sheet(k, 0, 1), k -> x.lay(k, 0, 0), k -> x.read(0, k, 0));
    }

    private static void theFirstThatFits() {
        Due.terms("NONE -4 (there is none), the first that fits;");
        FamilyNames x = full();
        due(x, FamilyNames.BAD, "spelling", 27);
        due(x, FamilyNames.BAD, "spelling", x.letters(3));
        due(x, FamilyNames.BAD, "place", 100, 0);
        due(x, FamilyNames.BAD, "book", 0, 1600, 1664);
        due(x, FamilyNames.BAD, "line", 0, 1650, 0, 5);
        due(x, FamilyNames.BAD, "line", 0, 1610, 16, 0);
        due(x, FamilyNames.STATE, "line", 0, 1650, 0, 0);
        due(x, FamilyNames.FULL, "line", 0, 1610, 0, 0);
        due(x, FamilyNames.BAD, "again", 0, 16);
        due(x, FamilyNames.STATE, "again", 0, x.lineOf(0, 2));
        due(x, FamilyNames.FULL, "again", 0, (x.lineOf(0, 2) + 1) % 16);
        due(x, FamilyNames.BAD, "read", 0, 0, 3);
        x.lay(0, 63, 99);
        x.lay(0, 40, 99);
        due(x, -60, "read", 0, 0, 0);
        x.lay(0, 40, 0);
        due(x, FamilyNames.FULL, "read", 0, 0, 0);
        FamilyNames y = some();
        due(y, FamilyNames.BAD, "hole", 3, 1620, 1);
        due(y, FamilyNames.BAD, "chain", 0, 2, 2);
        due(y, FamilyNames.NONE, "chain", 0, 2, 25);
        due(y, FamilyNames.BAD, "known", 1, 1000);
        due(y, FamilyNames.BAD, "bearers", 0, 2, 1600, 1599, 1);
        due(y, FamilyNames.NONE, "bearers", 0, 2, 1600, 1600, 1);
        due(y, FamilyNames.BAD, "first", 5, 2);
        due(y, FamilyNames.BAD, "judge", 0, 12);
        due(y, FamilyNames.STATE, "judge", 0, 4);
        due(y, FamilyNames.BAD, "pace", 5);
        due(y, -5, "father", 6, 6);
        due(y, -6, "father", 0, 0);
        due(y, FamilyNames.BAD, "sheet", 0, 3, -1);
        due(y, FamilyNames.BAD, "sheet", 0, 3, 65);
        due(y, FamilyNames.BAD, "lay", 4, -1, 0);
        due(y, -11, "lay", 3, -1, 0);
        due(y, FamilyNames.BAD, "read", 3, 3, 3);
    }

    private static void due(FamilyNames x, long want, String name, long... args) {
        Call call = new Call(name, args);
        Due.due(call.toString(), call.on(x), want);
    }

    private static void same(String behind, List<String> got, List<String> want) {
        Due.due(behind + ": how much is seen", got.size(), want.size());
        for (int i = 0; i < Math.min(got.size(), want.size()); i++) {
            if (!got.get(i).equals(want.get(i))) {
                Due.holds(behind + ": " + got.get(i) + " is not as before: " + want.get(i), false);
            }
        }
    }

    private static void refused(boolean atTheLimits, long want, String name, long... args) {
        FamilyNames x = atTheLimits ? full() : some();
        due(x, want, name, args);
        same(new Call(name, args).toString(), Seen.toTheEnd(x), Seen.toTheEnd(atTheLimits ? full() : some()));
    }

    private static void refusedChangesNothing() {
        Due.terms("what is refused changes nothing");
        refused(false, -1, "spelling", 0);
        refused(false, -1, "spelling", Due.word("xyz"));
        refused(false, -1, "end", -1);
        refused(false, -1, "end", 8);
        refused(false, -1, "place", 100, 5);
        refused(false, -1, "place", 5, -1);
        refused(false, -1, "book", 3, 1600, 1601);
        refused(false, -1, "book", 0, 1600, 1664);
        refused(false, -1, "hole", 0, 1610, 1);
        refused(false, -1, "hole", 3, 1600, 1);
        refused(false, -2, "hole", 0, 1600, 1);
        refused(false, -2, "hole", 0, 1600, 0);
        refused(false, -1, "line", 0, 1610, 0, 0);
        refused(false, -1, "line", 0, 1600, 5, 0);
        refused(false, -1, "line", 0, 1600, 0, 5);
        refused(false, -2, "line", 0, 1609, 0, 0);
        refused(false, -1, "day", 4);
        refused(false, -1, "day", 1000);
        refused(false, -1, "again", 6, 0);
        refused(false, -1, "again", 0, 5);
        refused(false, -2, "again", 1, 2);
        refused(false, -5, "father", 2, 6);
        refused(false, -5, "father", 2, -1);
        refused(false, -5, "father", 6, -4);
        refused(false, -6, "father", 2, 5);
        refused(false, -6, "father", 1, 3);
        refused(false, -1, "sheet", 0, 3, 5);
        refused(false, -1, "sheet", 0, 0, 65);
        refused(false, -14, "sheet", 0, 0, -1);
        refused(false, -14, "sheet", 3, 0, -1);
        refused(false, -1, "lay", 4, 0, 7);
        refused(false, -12, "lay", 0, 3, 7);
        refused(false, -12, "lay", 0, -1, 7);
        refused(false, -12, "lay", 1, 0, 7);
        refused(false, -11, "lay", 3, 0, 7);
        refused(false, -1, "read", 3, 0, 1);
        refused(false, -1, "read", 0, 4, 1);
        refused(false, -1, "read", 0, 0, 3);
        refused(false, -20, "read", 0, 2, 2);
        refused(false, -1, "chain", 0, 1, 2);
        refused(false, -4, "chain", 0, 2, 0);
        refused(false, -2, "judge", 0, 4);
        refused(false, -1, "judge", 0, 8);
    }

    private static void refusedAtTheLimits() {
        Due.terms("FULL -3, NONE -4 (there is none), the first that fits; what is refused changes nothing");
        refused(true, -3, "spelling", Due.word("q"));
        refused(true, -3, "feed", -1);
        refused(true, -3, "place", 50, 50);
        refused(true, -3, "book", 0, 1700, 1700);
        refused(true, -3, "line", 0, 1610, 0, 0);
        refused(true, -3, "again", 0, 0);
        refused(true, -3, "read", 0, 0, 0);
        refused(true, -1, "spelling", 0);
        refused(true, -1, "end", 201);
        refused(true, -1, "line", 0, 1610, 0, 7);
        refused(true, -1, "day", 998);
        refused(true, -5, "father", 40, 0);
        refused(true, -6, "father", 39, 38);
        refused(true, -12, "lay", 0, 64, 7);
    }

    private static void theTapeIsEmptied() {
        Due.terms("(but THE TAPE, as told).");
        FamilyNames x = some();
        x.feed(0x2121212121212121L);
        Due.due("refused", x.rules(), -17);
        Due.due("empty then", x.count(7), 0);
        FamilyNames y = some();
        y.end(0);
        List<String> got = Seen.of(x), want = Seen.of(y);
        // The fault is that of the latest text.
        got.removeIf(s -> s.startsWith("fault"));
        want.removeIf(s -> s.startsWith("fault"));
        same("rules", got, want);
    }

    /** One object is asked everything, its twin gets only what was taken: they must stay the same. */
    private static void refusedByChance() {
        Due.terms("the first that fits; what is refused changes nothing (but THE TAPE, as told).");
        for (int seed = 0; seed < 300; seed++) {
            Random chance = new Random(seed);
            FamilyNames x = new FamilyNames(), twin = new FamilyNames();
            for (int i = 0; i < 400; i++) {
                Call call = byChance(chance, x);
                long answer = call.on(x);
                if (call.changes(answer)) {
                    Due.due("twin " + seed + ": " + call, call.on(twin), answer);
                }
            }
            same("twin " + seed, Seen.of(x), Seen.of(twin));
        }
    }

    private static final String TEXT = "drop 2;join 7;say a b;mute c;like a b 1;miles 9;sons 1 1 1 0; ;";

    private static Call byChance(Random chance, FamilyNames x) {
        int s = near(chance, x.count(0)), t = near(chance, x.count(0)), p = near(chance, x.count(1));
        int b = near(chance, x.count(2)), k = near(chance, x.count(3)), m = near(chance, x.count(3));
        int year = 1598 + chance.nextInt(24), what = chance.nextInt(12) - 1, lane = chance.nextInt(13) / 4;
        switch (chance.nextInt(30)) {
            case 0: return new Call("spelling", chance.nextInt(1100));
            case 1: case 2: return new Call("feed", textByChance(chance));
            case 3: return new Call("end", chance.nextInt(40) - 2);
            case 4: return new Call("rules");
            case 5: return new Call("chain", s, t, what + chance.nextInt(10));
            case 6: return new Call("standing", what);
            case 7: return new Call("place", chance.nextInt(30) - 2, chance.nextInt(120) - 5);
            case 8: return new Call("book", p, year, year + chance.nextInt(80) - 2);
            case 9: case 10: return new Call("hole", b, year, chance.nextInt(2));
            case 11: case 12: case 13: case 14: return new Call("line", b, year, s, chance.nextInt(7) - 1);
            case 15: return new Call("day", x.count(5) + chance.nextInt(6) - 2);
            case 16: case 17: return new Call("again", k, s);
            case 18: return new Call("known", k, what);
            case 19: return new Call("starts", s, what);
            case 20: return new Call("judge", s, chance.nextInt(9));
            case 21: return new Call("pace", s);
            case 22: return new Call("dies", what, chance.nextInt(2));
            case 23: case 24: return new Call("father", k, chance.nextInt(5) == 0 ? FamilyNames.NONE : m);
            case 25: return new Call("issue", k, what);
            case 26: return new Call("sheet", chance.nextInt(6) - 1, lane, chance.nextInt(30) - 5);
            case 27: case 28: return new Call("lay", chance.nextInt(6) - 1, chance.nextInt(30) - 3, s);
            default: return new Call("read", b, chance.nextInt(5), lane);
        }
    }

    private static int near(Random chance, int many) {
        return chance.nextInt(10) == 0 ? many + chance.nextInt(3) - 1 : chance.nextInt(many + 1) - chance.nextInt(2);
    }

    private static long textByChance(Random chance) {
        int from = chance.nextInt(8) * 7;
        byte[] bytes = TEXT.getBytes(java.nio.charset.StandardCharsets.ISO_8859_1);
        return Due.eightBytes(bytes, Math.min(from, bytes.length - 8));
    }

    private static void divided() {
        Due.terms("Divided down is to the next whole number below (or that itself),");
        int[] least = {0, 0, 1, 1, 2}, most = {0, 1, 1, 2, 2};
        FamilyNames x = Due.withWords("a");
        x.place(0, 0);
        x.book(0, 1600, 1600);
        for (int halves = 0; halves < least.length; halves++) {
            Due.due("down, of halves " + halves, x.bearers(0, 0, 1600, 1600, 0), least[halves]);
            x.line(0, 1600, 0, 1);
        }
        Due.terms("divided up to the next one above (or itself).");
        FamilyNames y = Due.withWords("a");
        y.place(0, 0);
        y.book(0, 1600, 1600);
        for (int halves = 0; halves < most.length; halves++) {
            Due.due("up, of halves " + halves, y.bearers(0, 0, 1600, 1600, 1), most[halves]);
            y.line(0, 1600, 0, 1);
        }
        // 30 by 4 is 8 when divided up, 30 by 5 is 6.
        FamilyNames z = Due.withWords("a");
        z.place(0, 0);
        z.place(3, 0);
        z.book(0, 1600, 1600);
        z.book(1, 1607, 1608);
        z.line(0, 1600, 0, 0);
        z.line(1, 1608, 0, 0);
        Due.due("miles", Due.tell(z, "miles 4;"), 1);
        Due.due("8 years", z.judge(0, 1), 1);
        z.line(1, 1607, 0, 0);
        Due.due("7 years", z.judge(0, 1), 0);
        Due.due("miles", Due.tell(z, "miles 5;"), 1);
        Due.due("6 years are enough", z.judge(0, 1), 1);
    }
}
