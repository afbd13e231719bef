/** The document's 'What it is', clause by clause, on one object: what the class is for, from the first call to the last. */
public final class OpeningTest {
    private static final int MEIER = 0, MAIER = 1, MAYR = 2, HUBER = 3, HUBR = 4;
    private static final int READ = 0, HEARD = 1, TAKEN = 2, COPIED = 3, DOUBTED = 4;
    private static final int NONE = FamilyNames.NONE;

    public static void main(String[] args) {
        FamilyNames x = new FamilyNames();
        names(x);
        sounds(x);
        oneName(x);
        books(x);
        lines(x);
        bearers(x);
        began(x);
        kin(x);
        known(x);
        sheets(x);
        Due.finish();
    }

    private static void names(FamilyNames x) {
        Due.opening("Names of families:");
        String[] words = {"meier", "maier", "mayr", "huber", "hubr"};
        for (int s = 0; s < words.length; s++) {
            Due.due("spelling " + words[s], x.spelling(Due.word(words[s])), s);
        }
        Due.due("spellings", x.count(0), 5);
    }

    private static void sounds(FamilyNames x) {
        Due.opening("spellings brought to sounds by rules told in a text,");
        Due.due("sound as it is written", x.sound(MAYR), Due.word("mayr"));
        Due.due("rules", Due.tell(x, "say ay ei; like a e 1; drop 2; join 2; miles 10; sons 2 1 1 0;"), 6);
        Due.due("sound of mayr", x.sound(MAYR), Due.word("meir"));
        Due.due("sound of maier", x.sound(MAIER), Due.word("maier"));
        Due.opening("how far two sounds are apart,");
        Due.due("a for e", x.apart(MEIER, MAIER), 1);
        Due.due("an e is lost", x.apart(MEIER, MAYR), 2);
        Due.due("both", x.apart(MAIER, MAYR), 3);
    }

    private static void oneName(FamilyNames x) {
        Due.opening("which spellings are one name,");
        int[] due = {MEIER, MEIER, MEIER, HUBER, HUBER};
        for (int s = 0; s < due.length; s++) {
            Due.due("name of " + s, x.name(s), due[s]);
        }
        Due.opening("by which chain,");
        Due.due("how many", x.chain(MAIER, MAYR, 0), 3);
        Due.due("the sum", x.chain(MAIER, MAYR, 1), 3);
        Due.due("over meier", x.chain(MAIER, MAYR, 11), MEIER);
        Due.due("no chain", x.chain(MAIER, HUBR, 0), NONE);
        Due.opening("the fewest that stand for all;");
        Due.due("how many", x.standing(0), 2);
        Due.due("those", x.standing(1), 1 << MEIER | 1 << HUBER);
    }

    private static void books(FamilyNames x) {
        Due.opening("books of places with years and holes,");
        int[][] places = {{0, 0}, {10, 0}, {0, 15}};
        int[][] books = {{0, 1600, 1619}, {1, 1610, 1629}, {2, 1600, 1609}, {0, 1650, 1654}};
        for (int p = 0; p < places.length; p++) {
            Due.due("place " + p, x.place(places[p][0], places[p][1]), p);
        }
        for (int b = 0; b < books.length; b++) {
            Due.due("book " + b, x.book(books[b][0], books[b][1], books[b][2]), b);
        }
        Due.due("a hole", x.hole(2, 1604, true), 0);
        Due.due("holes", x.bookOf(2, 3), 1);
        Due.due("a line where nothing can be read", x.line(2, 1604, MEIER, READ), FamilyNames.STATE);
    }

    private static void lines(FamilyNames x) {
        Due.opening("lines read, heard, taken, copied, doubted, read again later;");
        int[][] lines = {{0, 1600, MEIER, READ}, {0, 1616, MAIER, HEARD}, {1, 1620, MAYR, TAKEN},
            {2, 1600, MEIER, COPIED}, {0, 1619, HUBER, DOUBTED}, {2, 1609, MAIER, READ}, {1, 1629, HUBER, READ}};
        for (int k = 0; k < lines.length; k++) {
            Due.due("line " + k, x.line(lines[k][0], lines[k][1], lines[k][2], lines[k][3]), k);
            Due.due("kind of line " + k, x.lineOf(k, 3), lines[k][3]);
        }
        Due.due("day", x.day(7), 0);
        Due.due("again", x.again(4, MEIER), 2);
        Due.due("name of what was read again", x.lineOf(4, 4), MEIER);
    }

    private static void bearers(FamilyNames x) {
        Due.opening("how many bore a name, at least, at most, never none where nothing was read;");
        Due.due("at least", x.bearers(MAYR, 0, 1600, 1639, 0), 2);
        Due.due("at most, with twenty years of forty read", x.bearers(MAYR, 0, 1600, 1639, 1), 4);
        Due.due("none where all was read", x.bearers(HUBR, 0, 1600, 1619, 1), 0);
        Due.due("nothing was read", x.bearers(MAYR, 0, 1700, 1709, 1), NONE);
        Due.due("a hole alone", x.bearers(MAYR, 2, 1604, 1604, 1), NONE);
    }

    private static void began(FamilyNames x) {
        Due.opening("where a name began: the fewest places that let all come by told miles;");
        int[] firsts = {1600, 1620, 1609};
        for (int p = 0; p < firsts.length; p++) {
            Due.due("first at " + p, x.first(MAYR, p), firsts[p]);
        }
        Due.due("ten years lead from 0 to 1, fifteen to 2", x.starts(MAYR, 1), 0b101);
        Due.due("both are told", x.judge(MAYR, 0b101), 1);
        Due.due("one is told", x.judge(MAYR, 0b001), 0);
        Due.due("nine years lead from 0 to 2", x.pace(MAYR), 17);
        Due.opening("how likely a line dies;");
        Due.due("no sons", x.dies(1, 0) * 10 + x.dies(1, 1), 12);
        Due.due("no grandsons", x.dies(2, 0), 11);
        Due.due("of", x.dies(2, 1), 16);
    }

    private static void kin(FamilyNames x) {
        Due.opening("who is kin by fathers, who by the name alone;");
        Due.due("father", x.father(1, 0), NONE);
        Due.due("father", x.father(4, 0), NONE);
        Due.due("father", x.father(6, 0), NONE);
        Due.due("brothers", x.kin(1, 4), 2);
        Due.due("by both", x.related(1, 4), 3);
        Due.due("by fathers alone", x.related(1, 6), 2);
        Due.due("by the name alone", x.related(1, 2), 1);
        Due.due("by nothing", x.related(2, 6), 0);
        Due.due("sons", x.issue(0, 0), 3);
        Due.due("sons of another name", x.issue(0, 1), 1);
    }

    private static void known(FamilyNames x) {
        Due.opening("what was known when;");
        Due.due("ahead of the day", x.known(4, 6), HUBER);
        Due.due("on the day", x.known(4, 7), MEIER);
    }

    private static void sheets(FamilyNames x) {
        Due.opening("books read from sheets whose faults the machine finds.");
        Due.due("sheet", x.sheet(0, 0, 3), 1);
        int[] cells = {HUBER, -1, HUBR};
        for (int i = 0; i < cells.length; i++) {
            Due.due("cell " + i, x.lay(0, i, cells[i]), 1);
        }
        Due.due("three cells for five years", x.read(3, 0, 0), 2);
        Due.due("index", x.torn(), 2);
        Due.due("years that are lost", x.bookOf(3, 3), 2);
        Due.due("taken as of another lane", x.read(3, 0, 2), 0);
        Due.due("cast", x.torn(), 3);
        Due.due("the year without a line is lost, too", x.bookOf(3, 3), 3);
        Due.due("nothing is there", x.read(3, 1, 0), 0);
        Due.due("null", x.torn(), 1);
        Due.due("size", x.sheet(2, 0, -1), -14);
        Due.due("lines", x.count(3), 9);
    }
}
