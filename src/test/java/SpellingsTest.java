/** Promises 1 to 3 and 9 to 14: spellings, sounds, apart, names, chains, those that stand for all. */
public final class SpellingsTest {
    public static void main(String[] args) {
        newObject();
        spellingsAreNumbered();
        oneToTenLetters();
        figures();
        spelling();
        letters();
        soundsFromTheLeft();
        theLongest();
        elseTheLetter();
        sound();
        twelveSounds();
        sounds();
        apart();
        drops();
        likeAndOther();
        join();
        oneName();
        name();
        leastSum();
        fewestSpellings();
        leastNumbers();
        chain();
        longestChain();
        chainWhat();
        chainNone();
        fewestStand();
        leastSumStands();
        standing();
        Due.finish();
    }

    private static void newObject() {
        FamilyNames x = new FamilyNames();
        Due.promise(1, "Nothing;");
        for (int what : new int[] {0, 1, 2, 3, 4, 6, 7}) {
            Due.due("count " + what, x.count(what), 0);
        }
        Due.due("no spelling", x.letters(0), FamilyNames.BAD);
        Due.due("no book", x.bookOf(0, 0), FamilyNames.BAD);
        Due.due("no line", x.lineOf(0, 0), FamilyNames.BAD);
        Due.due("no place", x.book(0, 1600, 1600), FamilyNames.BAD);
        Due.due("no text had a fault", x.fault(), 0);
        Due.due("no sheet had a fault", x.torn(), 0);
        FamilyNames other = Due.withWords("a");
        Due.due("objects share nothing", new FamilyNames().count(0), 0);
        Due.due("objects share nothing", other.count(0), 1);
        Due.promise(1, "rules as told at first;");
        int[] atFirst = {3, 4, 4, 5, 1, 1, 1, 1, 0, 0};
        for (int what = 0; what < atFirst.length; what++) {
            Due.due("rule " + what, x.rule(what), atFirst[what]);
        }
        Due.promise(1, "THE DAY 0;");
        Due.due("count 5", x.count(5), 0);
        Due.due("it was", x.day(1), 0);
        Due.promise(1, "SHEETS have nothing.");
        Due.due("count 8", x.count(8), FamilyNames.NONE);
        for (int k = 0; k < 4; k++) {
            Due.due("lay on " + k, x.lay(k, 0, 0), -11);
        }
    }

    private static void spellingsAreNumbered() {
        Due.terms("SPELLINGS (16) are numbered as they come:");
        FamilyNames x = new FamilyNames();
        for (int i = 0; i < 16; i++) {
            Due.due("spelling " + i, x.spelling(26 - i), i);
        }
        Due.due("the 17th", x.spelling(1), FamilyNames.FULL);
        Due.due("sixteen", x.count(0), 16);
        for (int i = 0; i < 16; i++) {
            Due.due("letters " + i, x.letters(i), 26 - i);
        }
    }

    private static void oneToTenLetters() {
        Due.terms("1 to 10 letters (a .. z are 1 .. 26),");
        FamilyNames x = new FamilyNames();
        Due.due("no letters", x.spelling(0), FamilyNames.BAD);
        Due.due("a", x.spelling(1), 0);
        Due.due("z", x.spelling(26), 1);
        Due.due("behind z", x.spelling(27), FamilyNames.BAD);
        Due.due("31", x.spelling(31), FamilyNames.BAD);
        Due.due("ten letters a", x.spelling(Due.word("aaaaaaaaaa")), 2);
        Due.due("ten letters z", x.spelling(Due.word("zzzzzzzzzz")), 3);
        Due.due("eleven letters", x.spelling(Due.word("aaaaaaaaaaa")), FamilyNames.BAD);
        Due.due("twelve letters", x.spelling(Due.word("zzzzzzzzzzzz")), FamilyNames.BAD);
        for (int at = 0; at < 10; at++) {
            long letter = Due.word("aaaaaaaaaa") - (1L << 5 * at);
            Due.due("0 at " + at, x.spelling(letter), at == 9 ? 4 : FamilyNames.BAD);
            for (int figure = 27; figure < 32; figure++) {
                Due.due(figure + " at " + at, x.spelling(letter + ((long) figure << 5 * at)), FamilyNames.BAD);
            }
        }
        Due.due("the first letter 0: nine letters came", x.letters(4), Due.word("aaaaaaaaa"));
        for (long letters : new long[] {-1, -26, -33, Long.MIN_VALUE, Long.MAX_VALUE, Long.MIN_VALUE + 1, 1L << 50,
            (1L << 50) + 1, 1L << 55, Long.MIN_VALUE + Due.word("abc"), (1L << 32) + 1, 1L << 60}) {
            Due.due("spelling " + letters, x.spelling(letters), FamilyNames.BAD);
        }
        Due.due("five came", x.count(0), 5);
    }

    private static void figures() {
        Due.terms("as figures to the base 32, the first the highest.");
        FamilyNames x = new FamilyNames();
        Due.due("a b", x.spelling(1 * 32 + 2), 0);
        Due.due("b a", x.spelling(2 * 32 + 1), 1);
        Due.tell(x, "mute a;");
        Due.due("b", x.sound(0), 2);
        Due.tell(x, "mute ab;");
        Due.due("a b", x.sounds(0), 0);
        Due.due("b a", x.sounds(1), 2);
    }

    private static void spelling() {
        Due.promise(2, "A SPELLING: its number.");
        FamilyNames x = new FamilyNames();
        Due.due("the first", x.spelling(Due.word("meier")), 0);
        Due.due("the second", x.spelling(Due.word("maier")), 1);
        Due.promise(2, "BAD: also it is there already;");
        Due.due("the first", x.spelling(Due.word("meier")), FamilyNames.BAD);
        Due.due("the latest", x.spelling(Due.word("maier")), FamilyNames.BAD);
        Due.due("not as told", x.spelling(0), FamilyNames.BAD);
        Due.due("two", x.count(0), 2);
        Due.due("the next one", x.spelling(Due.word("meie")), 2);
        Due.promise(2, "there already; FULL.");
        for (int i = 3; i < 16; i++) {
            Due.due("spelling " + i, x.spelling(i), i);
        }
        Due.due("full", x.spelling(17), FamilyNames.FULL);
        Due.due("bad ahead of full", x.spelling(27), FamilyNames.BAD);
        Due.due("there already, ahead of full", x.spelling(15), FamilyNames.BAD);
        Due.due("there already, ahead of full", x.spelling(Due.word("meier")), FamilyNames.BAD);
    }

    private static void letters() {
        Due.promise(3, "Its letters.");
        FamilyNames x = Due.withWords("zzzzzzzzzz", "a");
        Due.due("ten", x.letters(0), Due.word("zzzzzzzzzz"));
        Due.due("one", x.letters(1), 1);
        Due.tell(x, "mute a;say z yy;");
        Due.due("not its sounds", x.letters(0), Due.word("zzzzzzzzzz"));
        Due.promise(3, "BAD.");
        for (int s : new int[] {2, -1, 15, 16, Integer.MIN_VALUE, Integer.MAX_VALUE}) {
            Due.due("letters " + s, x.letters(s), FamilyNames.BAD);
        }
    }

    private static void soundsFromTheLeft() {
        Due.terms("SOUND of a SPELLING: from the left on:");
        FamilyNames x = Due.withWords("aaa", "abab", "cab");
        Due.tell(x, "say aa x;say ba y;");
        Due.due("aa, then a", x.sound(0), Due.word("xa"));
        Due.due("a, then ba, then b", x.sound(1), Due.word("ayb"));
        Due.tell(x, "say ca ab;say ab z;");
        Due.due("what it became is not done again", x.sound(2), Due.word("abb"));
    }

    private static void theLongest() {
        Due.terms("of what is said or mute and stands there (letter for letter) the longest is done,"
            + " and all its letters are gone;");
        FamilyNames x = Due.withWords("schmidt", "sc", "aab", "hhh", "tth", "s");
        Due.tell(x, "say s z;mute sc;say sch s;mute h;say dt t;say aa ou;");
        Due.due("three ahead of two, one", x.sound(0), Due.word("smit"));
        Due.due("two ahead of one, three do not fit", x.sound(1), 0);
        Due.due("one becomes two", x.sound(2), Due.word("oub"));
        Due.due("mute, each", x.sound(3), 0);
        Due.due("mute at the end", x.sound(4), Due.word("tt"));
        Due.due("one alone", x.sound(5), Due.word("z"));
        Due.tell(x, "say sch s;mute sc;say s z;");
        Due.due("whatever was told first", x.sound(0), Due.word("smidt"));
        Due.tell(x, "mute dtx;say aba c;mute bb;");
        Due.due("it does not stand there whole", x.sound(0), Due.word("schmidt"));
        Due.due("nor with other letters", x.sound(2), Due.word("aab"));
    }

    private static void elseTheLetter() {
        Due.terms("else the letter is a SOUND.");
        FamilyNames x = Due.withWords("abc");
        Due.due("untold", x.sound(0), Due.word("abc"));
        Due.tell(x, "say b x;");
        Due.due("around it", x.sound(0), Due.word("axc"));
        Due.tell(x, "");
        Due.due("no rules any more", x.sound(0), Due.word("abc"));
    }

    private static void sound() {
        Due.promise(9, "SOUND of a SPELLING, as letters are told (0: none;");
        FamilyNames x = Due.withWords("abz", "h", "hhhhhhhhhh");
        Due.due("as letters", x.sound(0), 1 * 1024 + 2 * 32 + 26);
        Due.tell(x, "mute h;say abz zy;");
        Due.due("as letters", x.sound(0), 26 * 32 + 25);
        Due.due("none", x.sound(1), 0);
        Due.due("none", x.sound(2), 0);
        Due.promise(9, "BAD.");
        for (int s : new int[] {3, -1, 16, Integer.MIN_VALUE, Integer.MAX_VALUE}) {
            Due.due("sound " + s, x.sound(s), FamilyNames.BAD);
        }
    }

    private static void twelveSounds() {
        Due.promise(9, "it may have more than 12: then its last 12).");
        FamilyNames x = Due.withWords("bcaaaaa", "bcdaaaaa", "abcdefaaaa", "aaaaaaaaaa", "zcbcdeaaaa");
        Due.tell(x, "say a yz;");
        Due.due("twelve", x.sound(0), Due.word("bcyzyzyzyzyz"));
        Due.due("thirteen", x.sound(1), Due.word("cdyzyzyzyzyz"));
        Due.due("fifteen", x.sound(2), Due.word("cdefyzyzyzyz"));
        Due.due("twenty", x.sound(3), Due.word("yzyzyzyzyzyz"));
        Due.due("not one bit of those ahead", x.sound(4), Due.word("bcdeyzyzyzyz"));
    }

    private static void sounds() {
        Due.promise(10, "How many SOUNDS it has.");
        FamilyNames x = Due.withWords("bcaaaaa", "bcdaaaaa", "aaaaaaaaaa", "h", "b");
        int[] untold = {7, 8, 10, 1, 1};
        for (int s = 0; s < untold.length; s++) {
            Due.due("letters of " + s, x.sounds(s), untold[s]);
        }
        Due.tell(x, "say a yz;mute h;say b x;");
        int[] told = {12, 13, 20, 0, 1};
        for (int s = 0; s < told.length; s++) {
            Due.due("sounds " + s, x.sounds(s), told[s]);
        }
        Due.promise(10, "BAD.");
        for (int s : new int[] {5, -1, 16, Integer.MIN_VALUE, Integer.MAX_VALUE}) {
            Due.due("sounds " + s, x.sounds(s), FamilyNames.BAD);
        }
    }

    private static void apart() {
        Due.promise(11, "APART.");
        FamilyNames x = Due.withWords("meier", "maier", "meyer", "mei");
        Due.due("itself", x.apart(0, 0), 0);
        Due.due("one", x.apart(0, 1), 4);
        Due.due("either way round", x.apart(1, 0), 4);
        Due.due("two", x.apart(1, 2), 8);
        Due.due("one and two", x.apart(3, 2), 10);
        Due.promise(11, "BAD.");
        for (int s : new int[] {4, -1, 16, Integer.MIN_VALUE, Integer.MAX_VALUE}) {
            Due.due("apart 0 " + s, x.apart(0, s), FamilyNames.BAD);
            Due.due("apart " + s + " 0", x.apart(s, 0), FamilyNames.BAD);
            Due.due("apart " + s + " " + s, x.apart(s, s), FamilyNames.BAD);
        }
        Due.terms("APART of two: the least sum by which the one row of SOUNDS becomes the other one:");
        Due.tell(x, "drop 2;other 20;");
        Due.due("lost and come is less than other", x.apart(0, 1), 4);
        Due.tell(x, "drop 7;like y i 20;");
        Due.due("lost and come is less than like", x.apart(0, 2), 14);
        Due.tell(x, "drop 2;other 4;");
        Due.due("as much either way", x.apart(0, 1), 4);
        Due.tell(x, "drop 2;other 3;");
        Due.due("other is less than lost and come", x.apart(0, 1), 3);
        FamilyNames rows = Due.withWords("abcabc", "bcabca", "aaaaaaaaaa", "bbbbbbbbbb", "bcaaaaa");
        Due.due("a lost ahead, a come behind", rows.apart(0, 1), 6);
        Due.tell(rows, "say a yz;say b xw;drop 20;other 20;");
        Due.due("twenty sounds in place of twenty", rows.apart(2, 3), 400);
        Due.tell(rows, "say a yz;");
        Due.due("all twenty sounds count, not the last twelve", rows.apart(2, 4), 8 * 3 + 2 * 4);
        Due.tell(rows, "say a yz;mute b;drop 20;other 20;");
        Due.due("twenty from none", rows.apart(2, 3), 400);
    }

    private static void drops() {
        Due.terms("a SOUND lost or come: drop;");
        FamilyNames x = Due.withWords("meier", "mei", "b", "xyzxyzxyzx", "h", "hh");
        Due.due("two lost", x.apart(0, 1), 6);
        Due.due("two come", x.apart(1, 0), 6);
        Due.due("nine come", x.apart(2, 3), 9 * 3 + 4);
        Due.tell(x, "mute h;drop 20;");
        Due.due("none from none", x.apart(4, 5), 0);
        Due.due("one from none", x.apart(4, 2), 20);
        Due.due("none from one", x.apart(2, 4), 20);
        Due.tell(x, "drop 0;");
        Due.due("drop 0", x.apart(0, 3), 0);
    }

    private static void likeAndOther() {
        Due.terms("one in place of another: like of these two, else other.");
        FamilyNames x = Due.withWords("meier", "maier", "meyer", "mei");
        Due.due("other", x.apart(0, 1), 4);
        Due.tell(x, "like e a 1;drop 20;other 9;");
        Due.due("like", x.apart(0, 1), 1);
        Due.due("like, the other way round", x.apart(1, 0), 1);
        Due.due("other", x.apart(0, 2), 9);
        Due.due("like and other", x.apart(1, 2), 10);
        Due.tell(x, "like a e 0;like i y 20;drop 20;other 1;");
        Due.due("like 0", x.apart(0, 1), 0);
        Due.due("like above other", x.apart(0, 2), 20);
        Due.tell(x, "other 0;");
        Due.due("other 0", x.apart(1, 2), 0);
        Due.due("other 0, two lost", x.apart(0, 3), 6);
        FamilyNames sounds = Due.withWords("a", "b");
        Due.tell(sounds, "say a x;say b y;like a b 1;like x y 2;");
        Due.due("of the sounds, not the letters", sounds.apart(0, 1), 2);
        Due.tell(sounds, "say a b;");
        Due.due("of one sound", sounds.apart(0, 1), 0);
    }

    private static void join() {
        Due.terms("Two SPELLINGS JOIN, if they are join APART at most.");
        FamilyNames x = Due.withWords("abc", "abd");
        Due.due("4 apart, join 4", x.name(1), 0);
        Due.tell(x, "join 3;");
        Due.due("4 apart, join 3", x.name(1), 1);
        Due.tell(x, "join 0;");
        Due.due("4 apart, join 0", x.name(1), 1);
        Due.tell(x, "join 0;other 0;");
        Due.due("0 apart, join 0", x.name(1), 0);
        Due.tell(x, "join 20;drop 20;other 20;");
        Due.due("20 apart, join 20", x.name(1), 0);
        Due.tell(x, "join 19;drop 20;other 20;");
        Due.due("20 apart, join 19", x.name(1), 1);
    }

    private static void oneName() {
        Due.terms("They are ONE NAME, if a chain of SPELLINGS leads from the one to the other,"
            + " each JOINED to the next;");
        FamilyNames x = Due.withWords("abc", "xyz", "abd", "xyw", "aed");
        Due.due("joined", x.name(2), 0);
        Due.due("by a chain", x.name(4), 0);
        Due.due("another", x.name(1), 1);
        Due.due("another, joined", x.name(3), 1);
        Due.tell(x, "join 12;");
        Due.due("all one", x.name(3), 0);
        Due.tell(x, "join 11;");
        Due.due("one less parts them", x.name(3), 1);
        Due.due("a new one may bring two together", x.spelling(Due.word("ayc")), 5);
        Due.due("now one", x.name(3), 0);
        Due.terms("a NAME is told by its least SPELLING.");
        FamilyNames late = Due.withWords("zzzz", "aabb", "aaaa", "aaab");
        int[] due = {0, 1, 1, 1};
        for (int s = 0; s < due.length; s++) {
            Due.due("name " + s, late.name(s), due[s]);
        }
    }

    private static void name() {
        Due.promise(12, "The NAME of a SPELLING.");
        FamilyNames x = Due.withWords("abc", "xyz", "abd");
        Due.due("its own", x.name(0), 0);
        Due.due("its own", x.name(1), 1);
        Due.due("of another one", x.name(2), 0);
        Due.promise(12, "BAD.");
        for (int s : new int[] {3, -1, 16, Integer.MIN_VALUE, Integer.MAX_VALUE}) {
            Due.due("name " + s, x.name(s), FamilyNames.BAD);
        }
    }

    private static void leastSum() {
        Due.terms("CHAIN: that with the least sum of APART;");
        // a to d costs 9 at once, but 8 over c or b.
        FamilyNames x = Due.withWords("a", "d", "c", "b");
        Due.tell(x, "like a d 9;like a b 4;like b d 4;like a c 4;like c d 4;join 9;drop 20;other 20;");
        Due.due("the least sum", x.chain(0, 1, 1), 8);
        Due.due("though it is longer", x.chain(0, 1, 0), 3);
        Due.due("and at once it is more", x.apart(0, 1), 9);
    }

    private static void fewestSpellings() {
        Due.terms("of several the fewest SPELLINGS,");
        FamilyNames x = Due.withWords("aaaa", "aaab", "aabb", "abbb");
        Due.tell(x, "join 8;");
        Due.due("12 by 8 and 4", x.chain(0, 3, 1), 12);
        Due.due("of one sum the fewest", x.chain(0, 3, 0), 3);
        Due.tell(x, "join 12;");
        Due.due("at once", x.chain(0, 3, 0), 2);
        // Sums of 0 all the way: the fewest is the one step.
        FamilyNames y = Due.withWords("ha", "a", "ah", "hah");
        Due.tell(y, "mute h;");
        Due.due("sum", y.chain(3, 0, 1), 0);
        Due.due("one step", y.chain(3, 0, 0), 2);
        Due.due("one step", y.chain(3, 0, 11), 0);
        // Over b and c the numbers are less, but it is one more.
        FamilyNames z = Due.withWords("a", "b", "c", "d", "e");
        Due.tell(z, "other 20;drop 20;join 6;like a b 2;like b c 2;like c e 2;like a d 3;like d e 3;");
        Due.due("sum", z.chain(0, 4, 1), 6);
        Due.due("fewest ahead of least numbers", z.chain(0, 4, 0), 3);
        Due.due("fewest ahead of least numbers", z.chain(0, 4, 11), 3);
    }

    private static void leastNumbers() {
        Due.terms("then the least numbers one by one.");
        FamilyNames x = Due.withWords("aaaa", "aaab", "aabb", "abbb");
        Due.tell(x, "join 8;");
        Due.due("1, not 2", x.chain(0, 3, 11), 1);
        Due.due("1, not 2, from the other end", x.chain(3, 0, 11), 1);
        // From 0 to 5 over 1 and 4 or over 2 and 3: the first unlike number counts, not the last.
        FamilyNames y = Due.withWords("a", "b", "c", "d", "e", "f");
        Due.tell(y, "other 20;drop 20;join 2;like a b 2;like b e 2;like e f 2;like a c 2;like c d 2;like d f 2;");
        int[] there = {0, 1, 4, 5}, back = {5, 3, 2, 0};
        for (int i = 0; i < 4; i++) {
            Due.due("there " + i, y.chain(0, 5, 10 + i), there[i]);
            Due.due("back " + i, y.chain(5, 0, 10 + i), back[i]);
        }
    }

    private static FamilyNames path() {
        return Due.withWords("aaaa", "aaab", "aabb", "abbb", "zzzzzz");
    }

    private static void chain() {
        FamilyNames x = path();
        Due.promise(13, "CHAIN: how many SPELLINGS (what 0),");
        Due.due("four", x.chain(0, 3, 0), 4);
        Due.due("two", x.chain(0, 1, 0), 2);
        Due.due("itself", x.chain(4, 4, 0), 1);
        Due.promise(13, "the sum (1),");
        Due.due("four", x.chain(0, 3, 1), 12);
        Due.due("two", x.chain(0, 1, 1), 4);
        Due.due("itself", x.chain(4, 4, 1), 0);
        Due.promise(13, "SPELLING i of it (s first).");
        for (int i = 0; i < 4; i++) {
            Due.due("member " + i, x.chain(0, 3, 10 + i), i);
            Due.due("backwards " + i, x.chain(3, 0, 10 + i), 3 - i);
        }
        Due.due("itself", x.chain(4, 4, 10), 4);
    }

    /** Sixteen spellings in a row, each joined to the next one alone. */
    private static FamilyNames sixteenInARow() {
        FamilyNames x = new FamilyNames();
        StringBuilder word = new StringBuilder("aaaaaaaaaa");
        for (int s = 0; s < 16; s++) {
            Due.due("spelling " + s, x.spelling(Due.word(word.toString())), s);
            word.setCharAt(9 - s % 10, s < 10 ? 'b' : 'c');
        }
        return x;
    }

    private static void longestChain() {
        Due.promise(13, "10 and i (0 to 15):");
        FamilyNames x = sixteenInARow();
        Due.due("sixteen", x.chain(0, 15, 0), 16);
        Due.due("sum", x.chain(0, 15, 1), 60);
        for (int i = 0; i < 16; i++) {
            Due.due("member " + i, x.chain(0, 15, 10 + i), i);
            Due.due("backwards " + i, x.chain(15, 0, 10 + i), 15 - i);
        }
        Due.due("i is 16", x.chain(0, 15, 26), FamilyNames.BAD);
        Due.due("i is -1", x.chain(0, 15, 9), FamilyNames.BAD);
        Due.due("fifteen have no more", x.chain(0, 14, 25), FamilyNames.NONE);
    }

    private static void chainWhat() {
        Due.promise(13, "(s first). BAD;");
        FamilyNames x = path();
        for (int what : new int[] {-1, 2, 3, 4, 5, 6, 7, 8, 9, 26, 27, Integer.MIN_VALUE, Integer.MAX_VALUE}) {
            Due.due("what " + what, x.chain(0, 1, what), FamilyNames.BAD);
            Due.due("bad ahead of none, what " + what, x.chain(0, 4, what), FamilyNames.BAD);
        }
        for (int s : new int[] {5, -1, 16, Integer.MIN_VALUE, Integer.MAX_VALUE}) {
            Due.due("chain 0 " + s, x.chain(0, s, 0), FamilyNames.BAD);
            Due.due("chain " + s + " 0", x.chain(s, 0, 0), FamilyNames.BAD);
            Due.due("chain " + s + " twice", x.chain(s, s, 10), FamilyNames.BAD);
        }
    }

    private static void chainNone() {
        FamilyNames x = path();
        Due.promise(13, "NONE: they are not ONE NAME,");
        for (int what : new int[] {0, 1, 10, 11, 25}) {
            Due.due("what " + what, x.chain(0, 4, what), FamilyNames.NONE);
            Due.due("what " + what, x.chain(4, 0, what), FamilyNames.NONE);
        }
        Due.promise(13, "it is not so long.");
        Due.due("the last of four", x.chain(0, 3, 13), 3);
        Due.due("a fifth", x.chain(0, 3, 14), FamilyNames.NONE);
        Due.due("a sixteenth", x.chain(0, 3, 25), FamilyNames.NONE);
        Due.due("itself alone", x.chain(4, 4, 11), FamilyNames.NONE);
    }

    private static void fewestStand() {
        Due.terms("STANDING: the fewest SPELLINGS so that each one is JOINED to one of them (or is one);");
        FamilyNames star = Due.withWords("baaa", "abaa", "aaab", "aaaa");
        Due.tell(star, "drop 20;join 4;");
        Due.due("one in the middle", star.standing(0), 1);
        Due.due("the one in the middle", star.standing(1), 8);
        FamilyNames path = Due.withWords("aaaa", "aaab", "aabb", "abbb");
        Due.due("joined, not of one name", path.standing(0), 2);
        Due.due("one name", path.standing(2), 1);
        FamilyNames row = sixteenInARow();
        Due.due("sixteen in a row", row.standing(0), 6);
        FamilyNames alone = new FamilyNames();
        for (int s = 0; s < 16; s++) {
            alone.spelling(s + 1);
        }
        Due.tell(alone, "join 3;");
        Due.due("all alone", alone.standing(0), 16);
        Due.due("all alone", alone.standing(1), 65535);
        Due.tell(alone, "join 4;");
        Due.due("all joined", alone.standing(0), 1);
        Due.due("the least one", alone.standing(1), 1);
    }

    private static void leastSumStands() {
        Due.terms("(or is one); of several the least sum of 2 to the number of each.");
        FamilyNames two = Due.withWords("a", "b");
        Due.due("either one would do", two.standing(1), 1);
        FamilyNames path = Due.withWords("aaaaaa", "aaaaab", "aaaabb", "aaabbb", "aabbbb", "abbbbb", "bbbbbb");
        Due.due("a path of seven", path.standing(0), 3);
        // 1, 3 and 5 would do, too, and 1, 4 and 6.
        Due.due("the least sum", path.standing(1), 1 | 1 << 2 | 1 << 5);
        FamilyNames alone = Due.withWords("aaaa", "bbbb", "cccc", "dddd", "eeee", "cccd");
        Due.due("four alone and a pair", alone.standing(0), 5);
        Due.due("the pair's least one", alone.standing(1), 31);
        FamilyNames middle = Due.withWords("aaaa", "aabb", "aaab");
        Due.due("one ahead of two with a less sum", middle.standing(1), 4);
        // A ring a b d e c: 0 and 3 would do, too, but the highest number counts, not the lowest.
        FamilyNames ring = Due.withWords("a", "b", "c", "d", "e");
        Due.tell(ring, "other 20;drop 20;join 1;like a b 1;like b d 1;like d e 1;like e c 1;like c a 1;");
        Due.due("two", ring.standing(0), 2);
        Due.due("1 and 2", ring.standing(1), 1 << 1 | 1 << 2);
    }

    private static void standing() {
        FamilyNames none = new FamilyNames();
        FamilyNames one = Due.withWords("a");
        FamilyNames some = Due.withWords("zzzz", "aabb", "aaaa", "aaab", "qq");
        Due.promise(14, "STANDING: how many (what 0),");
        Due.due("none", none.standing(0), 0);
        Due.due("one", one.standing(0), 1);
        Due.due("some", some.standing(0), 3);
        Due.promise(14, "those (bits, 1),");
        Due.due("none", none.standing(1), 0);
        Due.due("one", one.standing(1), 1);
        Due.due("some", some.standing(1), 1 | 1 << 3 | 1 << 4);
        Due.promise(14, "how many NAMES there are (2).");
        Due.due("none", none.standing(2), 0);
        Due.due("one", one.standing(2), 1);
        Due.due("some", some.standing(2), 3);
        Due.tell(some, "join 3;");
        Due.due("all alone", some.standing(2), 5);
        Due.promise(14, "BAD.");
        for (int what : new int[] {-1, 3, 10, Integer.MIN_VALUE, Integer.MAX_VALUE}) {
            Due.due("what " + what, some.standing(what), FamilyNames.BAD);
            Due.due("what " + what, none.standing(what), FamilyNames.BAD);
        }
    }
}
