/** Promises 1 to 3 and 9 to 14: spellings, sounds, apart, names, chains, those that stand for all. */
public final class SpellingsTest {
    public static void main(String[] args) {
        newObject();
        spellings();
        soundsByRules();
        longSounds();
        apart();
        names();
        chains();
        chainTies();
        standing();
        Due.finish();
    }

    private static void newObject() {
        FamilyNames x = new FamilyNames();
        int[] atFirst = {3, 4, 4, 5, 1, 1, 1, 1, 0, 0};
        for (int what = 0; what < atFirst.length; what++) {
            Due.due("new: rule " + what, x.rule(what), atFirst[what]);
        }
        for (int what = 0; what < 8; what++) {
            Due.due("new: count " + what, x.count(what), 0);
        }
        Due.due("new: count 8", x.count(8), FamilyNames.NONE);
        Due.due("new: fault", x.fault(), 0);
        Due.due("new: torn", x.torn(), 0);
        Due.due("new: day", x.day(0), 0);
        for (int k = 0; k < 4; k++) {
            Due.due("new: lay on " + k, x.lay(k, 0, 0), -11);
        }
        FamilyNames other = Due.withWords("a");
        Due.due("objects share nothing", new FamilyNames().count(0), 0);
        Due.due("objects share nothing", other.count(0), 1);
    }

    private static void spellings() {
        FamilyNames x = new FamilyNames();
        long[] bad = {0, -1, 27, 31, 32, 1024, 32 * 27 + 1, 27 * 32 + 1, Long.MAX_VALUE, Long.MIN_VALUE,
            Due.word("aaaaaaaaaa") * 32 + 1, 1L << 50, Due.word("aaa") * 32, -Due.word("ab")};
        for (long letters : bad) {
            Due.due("spelling " + letters, x.spelling(letters), FamilyNames.BAD);
        }
        Due.due("nothing came", x.count(0), 0);
        Due.due("ten letters", x.spelling(Due.word("zzzzzzzzzz")), 0);
        Due.due("one letter", x.spelling(1), 1);
        Due.due("there already", x.spelling(1), FamilyNames.BAD);
        Due.due("there already", x.spelling(Due.word("zzzzzzzzzz")), FamilyNames.BAD);
        for (int i = 2; i < 16; i++) {
            Due.due("spelling " + i, x.spelling(i), i);
        }
        Due.due("full", x.spelling(17), FamilyNames.FULL);
        Due.due("bad ahead of full", x.spelling(27), FamilyNames.BAD);
        Due.due("there already, ahead of full", x.spelling(15), FamilyNames.BAD);
        Due.due("sixteen", x.count(0), 16);
        Due.due("letters of ten", x.letters(0), Due.word("zzzzzzzzzz"));
        Due.due("letters of the last", x.letters(15), 15);
        Due.due("letters: none", x.letters(16), FamilyNames.BAD);
        Due.due("letters: none", x.letters(-1), FamilyNames.BAD);
    }

    private static void soundsByRules() {
        FamilyNames x = Due.withWords("schmidt", "aab", "hhh", "tth", "abc");
        Due.due("untold", x.sound(0), Due.word("schmidt"));
        Due.due("untold", x.sounds(0), 7);
        Due.due("rules", Due.tell(x, "say sch s;mute h;say dt t;say s z;mute sc;say aa ou;"), 6);
        Due.due("the longest is done", x.sound(0), Due.word("smit"));
        Due.due("the longest is done", x.sounds(0), 4);
        Due.due("one becomes two", x.sound(1), Due.word("oub"));
        Due.due("mute: none", x.sound(2), 0);
        Due.due("mute: none", x.sounds(2), 0);
        Due.due("mute at the end", x.sound(3), Due.word("tt"));
        Due.due("what it became is not done again", x.sound(4), Due.word("abc"));
        Due.due("rules", Due.tell(x, "say a b;say b c;say bcd x;"), 3);
        Due.due("from the left on", x.sound(1), Due.word("bbc"));
        Due.due("does not stand there whole", x.sound(4), Due.word("bcc"));
        Due.due("sound: none", x.sound(5), FamilyNames.BAD);
        Due.due("sound: none", x.sound(-1), FamilyNames.BAD);
        Due.due("sounds: none", x.sounds(5), FamilyNames.BAD);
        Due.due("sounds: none", x.sounds(-1), FamilyNames.BAD);
        Due.due("no rules", Due.tell(x, ""), 0);
        Due.due("back to letters", x.sound(1), Due.word("aab"));
    }

    private static void longSounds() {
        FamilyNames x = Due.withWords("abcdefaaaa", "aaaaaaaaaa", "bcaaaaa", "ccbcdeaaaa", "ucbcdeaaaa");
        Due.tell(x, "say a yz;");
        Due.due("fifteen", x.sounds(0), 15);
        Due.due("its last twelve", x.sound(0), Due.word("cdefyzyzyzyz") & (1L << 60) - 1);
        Due.due("twenty", x.sounds(1), 20);
        Due.due("its last twelve", x.sound(1), Due.word("yzyzyzyzyzyz"));
        Due.due("just twelve", x.sounds(2), 12);
        Due.due("just twelve", x.sound(2), Due.word("bcyzyzyzyzyz"));
        Due.due("not one bit of the one ahead", x.sound(3), Due.word("cbcdeyzyzyzyz") & (1L << 60) - 1);
        Due.due("fourteen and fourteen, alike at their ends", x.sound(4), x.sound(3));
        Due.due("twenty and twelve apart", x.apart(1, 2), 8 * 3 + 2 * 4);
    }

    private static void apart() {
        FamilyNames x = Due.withWords("meier", "maier", "meyer", "mei", "b", "xyzxyzxyzx");
        Due.due("itself", x.apart(0, 0), 0);
        Due.due("other", x.apart(0, 1), 4);
        Due.due("two others", x.apart(1, 2), 8);
        Due.due("two dropped", x.apart(0, 3), 6);
        Due.due("two come", x.apart(3, 0), 6);
        Due.due("all but one come", x.apart(4, 5), 9 * 3 + 4);
        Due.due("rules", Due.tell(x, "like e a 1;like y i 20;drop 7;other 9;"), 4);
        Due.due("like", x.apart(0, 1), 1);
        Due.due("like, the other way round", x.apart(1, 0), 1);
        Due.due("lost and come is less than like", x.apart(0, 2), 14);
        Due.due("rules", Due.tell(x, "drop 2;other 20;"), 2);
        Due.due("lost and come is less than other", x.apart(0, 1), 4);
        Due.due("rules", Due.tell(x, "drop 0;"), 1);
        Due.due("drop 0", x.apart(0, 5), 0);
        Due.due("rules", Due.tell(x, "other 0;"), 1);
        Due.due("other 0", x.apart(0, 2), 0);
        Due.due("other 0, lengths", x.apart(0, 3), 6);
        Due.due("apart: none", x.apart(0, 6), FamilyNames.BAD);
        Due.due("apart: none", x.apart(6, 0), FamilyNames.BAD);
        Due.due("apart: none", x.apart(-1, 0), FamilyNames.BAD);
        Due.due("apart: none", x.apart(0, -1), FamilyNames.BAD);
        FamilyNames y = Due.withWords("h", "hh", "a");
        Due.tell(y, "mute h;");
        Due.due("nothing from nothing", y.apart(0, 1), 0);
        Due.due("nothing from something", y.apart(0, 2), 3);
    }

    private static void names() {
        FamilyNames x = Due.withWords("abc", "xyz", "abd", "xyw", "aed");
        Due.due("first", x.name(0), 0);
        Due.due("joined", x.name(2), 0);
        Due.due("by a chain", x.name(4), 0);
        Due.due("another", x.name(1), 1);
        Due.due("another, joined", x.name(3), 1);
        Due.due("names", x.standing(2), 2);
        Due.due("join 3", Due.tell(x, "join 3;"), 1);
        for (int s = 0; s < 5; s++) {
            Due.due("alone " + s, x.name(s), s);
        }
        Due.due("names", x.standing(2), 5);
        Due.due("join 12", Due.tell(x, "join 12;"), 1);
        Due.due("all one", x.name(3), 0);
        Due.due("join 11", Due.tell(x, "join 11;"), 1);
        Due.due("one less parts them", x.name(3), 1);
        Due.due("a new one may bring two together", x.spelling(Due.word("ayc")), 5);
        Due.due("now one", x.name(3), 0);
        Due.due("name: none", x.name(6), FamilyNames.BAD);
        Due.due("name: none", x.name(-1), FamilyNames.BAD);
    }

    private static void chains() {
        FamilyNames x = Due.withWords("aaaa", "aaab", "aabb", "abbb", "zzzzzz");
        Due.due("long chain", x.chain(0, 3, 0), 4);
        Due.due("its sum", x.chain(0, 3, 1), 12);
        for (int i = 0; i < 4; i++) {
            Due.due("member " + i, x.chain(0, 3, 10 + i), i);
            Due.due("backwards " + i, x.chain(3, 0, 10 + i), 3 - i);
        }
        Due.due("no longer", x.chain(0, 3, 14), FamilyNames.NONE);
        Due.due("no longer", x.chain(0, 3, 25), FamilyNames.NONE);
        Due.due("not one name", x.chain(0, 4, 0), FamilyNames.NONE);
        Due.due("not one name", x.chain(0, 4, 1), FamilyNames.NONE);
        Due.due("not one name", x.chain(0, 4, 10), FamilyNames.NONE);
        Due.due("itself", x.chain(4, 4, 0), 1);
        Due.due("itself", x.chain(4, 4, 1), 0);
        Due.due("itself", x.chain(4, 4, 10), 4);
        Due.due("itself", x.chain(4, 4, 11), FamilyNames.NONE);
        for (int what : new int[] {-1, 2, 9, 26, Integer.MIN_VALUE, Integer.MAX_VALUE}) {
            Due.due("what " + what, x.chain(0, 1, what), FamilyNames.BAD);
            Due.due("bad ahead of none, what " + what, x.chain(0, 4, what), FamilyNames.BAD);
        }
        Due.due("chain: none", x.chain(0, 5, 0), FamilyNames.BAD);
        Due.due("chain: none", x.chain(5, 0, 0), FamilyNames.BAD);
        Due.due("chain: none", x.chain(-1, 0, 0), FamilyNames.BAD);
        Due.due("chain: none", x.chain(0, -1, 0), FamilyNames.BAD);
        Due.due("join 8", Due.tell(x, "join 8;"), 1);
        Due.due("of one sum the fewest", x.chain(0, 3, 0), 3);
        Due.due("then the least numbers", x.chain(0, 3, 11), 1);
        Due.due("then the least numbers, back", x.chain(3, 0, 11), 1);
    }

    private static void chainTies() {
        // a to d costs 9 at once, but 8 over c or b.
        FamilyNames x = Due.withWords("a", "d", "c", "b");
        Due.due("rules", Due.tell(x, "like a d 9;like a b 4;like b d 4;like a c 4;like c d 4;join 9;drop 20;other 20;"), 8);
        Due.due("the least sum", x.chain(0, 1, 1), 8);
        Due.due("over one more", x.chain(0, 1, 0), 3);
        Due.due("the least number", x.chain(0, 1, 11), 2);
        // Sums of 0 all the way: the fewest is the one step.
        FamilyNames y = Due.withWords("ha", "a", "ah", "hah");
        Due.tell(y, "mute h;");
        Due.due("one step", y.chain(3, 0, 0), 2);
        Due.due("one step", y.chain(3, 0, 11), 0);
        // A dearer first step with a cheaper rest loses against one sum with fewer.
        FamilyNames z = Due.withWords("a", "b", "c", "d", "e");
        Due.tell(z, "other 20;drop 20;join 6;like a b 2;like b c 2;like c e 2;like a d 3;like d e 3;");
        Due.due("sum", z.chain(0, 4, 1), 6);
        Due.due("fewest ahead of least numbers", z.chain(0, 4, 0), 3);
        Due.due("fewest ahead of least numbers", z.chain(0, 4, 11), 3);
    }

    private static void standing() {
        FamilyNames x = new FamilyNames();
        for (int what = 0; what < 3; what++) {
            Due.due("none stand, what " + what, x.standing(what), 0);
        }
        FamilyNames path = Due.withWords("aaaaaa", "aaaaab", "aaaabb", "aaabbb", "aabbbb", "abbbbb", "bbbbbb");
        Due.due("a path of seven", path.standing(0), 3);
        Due.due("the least sum", path.standing(1), 1 | 1 << 2 | 1 << 5);
        Due.due("one name", path.standing(2), 1);
        FamilyNames star = Due.withWords("baaa", "abaa", "aaab", "aaaa");
        Due.tell(star, "drop 20;join 4;");
        Due.due("one in the middle", star.standing(0), 1);
        Due.due("the one in the middle", star.standing(1), 8);
        FamilyNames middle = Due.withWords("aaaa", "aabb", "aaab");
        Due.due("one ahead of two with a less sum", middle.standing(0), 1);
        Due.due("one ahead of two with a less sum", middle.standing(1), 4);
        FamilyNames one = Due.withWords("a");
        Due.due("the only one", one.standing(1), 1);
        FamilyNames alone = new FamilyNames();
        for (int s = 0; s < 16; s++) {
            alone.spelling(s + 1);
        }
        Due.tell(alone, "join 3;");
        Due.due("all alone", alone.standing(0), 16);
        Due.due("all alone", alone.standing(1), 65535);
        Due.due("all alone", alone.standing(2), 16);
        Due.tell(alone, "join 4;");
        Due.due("all joined", alone.standing(0), 1);
        Due.due("the least one", alone.standing(1), 1);
        Due.due("what -1", alone.standing(-1), FamilyNames.BAD);
        Due.due("what 3", alone.standing(3), FamilyNames.BAD);
    }
}
