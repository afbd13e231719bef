/** Promises 4 to 8: the tape, rules told in a text, faults and their places. */
public final class TextTest {
    public static void main(String[] args) {
        tape();
        takenTexts();
        refusedKeeps();
        lexicalFaults();
        misplaced();
        bounds();
        toldTwice();
        tooMany();
        firstFault();
        Due.finish();
    }

    private static void tape() {
        FamilyNames x = new FamilyNames();
        Due.due("end: below 0", x.end(-1), FamilyNames.BAD);
        Due.due("end: more than there are", x.end(1), FamilyNames.BAD);
        for (int i = 1; i <= 25; i++) {
            Due.due("feed " + i, x.feed(0x2020202020202020L), 8 * i);
        }
        Due.due("full", x.feed(0), FamilyNames.FULL);
        Due.due("full changes nothing", x.count(7), 200);
        Due.due("end keeps all", x.end(200), 200);
        Due.due("end: above", x.end(201), FamilyNames.BAD);
        Due.due("end: far above", x.end(Integer.MAX_VALUE), FamilyNames.BAD);
        Due.due("end", x.end(193), 200);
        Due.due("one too many", x.feed(0), FamilyNames.FULL);
        Due.due("end", x.end(192), 193);
        Due.due("just fits", x.feed(0x646f7220313b2020L), 200);
        Due.due("end: 0", x.end(0), 200);
        Due.due("empty", x.count(7), 0);
        Due.due("nothing told", x.rules(), 0);
        x.feed(0x64726f7020373b20L);
        Due.due("the highest byte first", x.rules(), 1);
        Due.due("the highest byte first", x.rule(0), 7);
        Due.due("empty then", x.count(7), 0);
        x.feed(0x2121212121212121L);
        Due.due("refused", x.rules(), -10);
        Due.due("empty then, too", x.count(7), 0);
    }

    private static void takenTexts() {
        taken("", 0, 3, 4, 4, 5, 1, 1, 1, 1, 0, 0);
        taken("     ", 0, 3, 4, 4, 5, 1, 1, 1, 1, 0, 0);
        taken("drop 0;other 20;join 20;miles 20;sons 0 0 0 9;", 5, 0, 20, 20, 20, 0, 0, 0, 9, 0, 0);
        taken("  drop   1  ;  miles 01 ; join 00;", 3, 1, 4, 0, 1, 1, 1, 1, 1, 0, 0);
        taken("drop1;other2;sons 1 0 0 0;", 3, 1, 2, 4, 5, 1, 0, 0, 0, 0, 0);
        taken("say a b;say ab cd;say abc d;mute x;mute xy;mute xyz;", 6, 3, 4, 4, 5, 1, 1, 1, 1, 6, 0);
        taken("say say so;mute of;say a a;", 3, 3, 4, 4, 5, 1, 1, 1, 1, 3, 0);
        taken("like a b 0;like a c 20;like b c 7;", 3, 3, 4, 4, 5, 1, 1, 1, 1, 0, 3);
        taken("sons 09 00 0 00;", 1, 3, 4, 4, 5, 9, 0, 0, 0, 0, 0);
        StringBuilder most = new StringBuilder();
        for (int i = 0; i < 20; i++) {
            most.append("like a ").append((char) ('b' + i)).append("1;");
        }
        taken(most.toString(), 20, 3, 4, 4, 5, 1, 1, 1, 1, 0, 20);
        FamilyNames x = new FamilyNames();
        Due.due("rule -1", x.rule(-1), FamilyNames.BAD);
        Due.due("rule 10", x.rule(10), FamilyNames.BAD);
    }

    private static void taken(String text, int lines, int... what) {
        FamilyNames x = new FamilyNames();
        Due.tell(x, "drop 9;other 9;join 9;miles 9;sons 2 2 2 2;say k l;like u v 1;");
        Due.due("'" + text + "'", Due.tell(x, text), lines);
        Due.due("'" + text + "': fault", x.fault(), 0);
        for (int i = 0; i < what.length; i++) {
            Due.due("'" + text + "': rule " + i, x.rule(i), what[i]);
        }
    }

    private static void refusedKeeps() {
        FamilyNames x = Due.withWords("kab", "kac");
        Due.due("told", Due.tell(x, "drop 9;other 8;join 7;miles 6;sons 2 2 2 2;say k l;like b c 1;"), 7);
        Due.due("refused", Due.tell(x, "drop 1;say a b;like x y 1;join 1;mute kab;sons 9 0 0 0;!"), -10 - 55);
        int[] what = {9, 8, 7, 6, 2, 2, 2, 2, 1, 1};
        for (int i = 0; i < what.length; i++) {
            Due.due("kept: rule " + i, x.rule(i), what[i]);
        }
        Due.due("kept: sound", x.sound(0), Due.word("lab"));
        Due.due("kept: apart", x.apart(0, 1), 1);
        Due.due("fault", x.fault(), 1);
        Due.due("fault again", x.fault(), 1);
        Due.due("taken", Due.tell(x, ""), 0);
        Due.due("fault of the latest", x.fault(), 0);
    }

    private static void fault(String text, int place, int kind) {
        FamilyNames x = new FamilyNames();
        Due.due("'" + text + "'", Due.tell(x, text), -10 - place);
        Due.due("'" + text + "': fault", x.fault(), kind);
    }

    private static void lexicalFaults() {
        fault("!", 0, 1);
        fault("   $", 3, 1);
        fault("A", 0, 1);
        fault("\t", 0, 1);
        fault("drop 3;\n", 7, 1);
        fault("drop 100;", 5, 1);
        fault("drop 001;", 5, 1);
        fault("123;", 0, 1);
        fault("say 1234 a;", 4, 1);
        fault("say a:b;", 5, 1);
        fault("drop {1;", 5, 1);
        fault("drop `1;", 5, 1);
        fault("drop /1;", 5, 1);
        fault("like a b 4\u00e9;", 10, 1);
        fault("\u00ff", 0, 1);
        fault("\u0000", 0, 1);
        fault("sons 1 1 1 1 ;;-", 14, 2);
        fault("drop 3;-", 7, 1);
    }

    private static void misplaced() {
        fault("say", 3, 2);
        fault("say  ", 5, 2);
        fault("say ab", 6, 2);
        fault("say ab c", 8, 2);
        fault("say abcd e;", 4, 2);
        fault("say ab cde;", 7, 2);
        fault("say ab c d;", 9, 2);
        fault("say 1 a;", 4, 2);
        fault("say a 1;", 6, 2);
        fault("say ;", 4, 2);
        fault("mute;", 4, 2);
        fault("mute abcd;", 5, 2);
        fault("mute a b;", 7, 2);
        fault("mute 12;", 5, 2);
        fault("like;", 4, 2);
        fault("like ab c 1;", 5, 2);
        fault("like a bc 1;", 7, 2);
        fault("like a 1;", 7, 2);
        fault("like a b;", 8, 2);
        fault("like a b c;", 9, 2);
        fault("like a b 1 1;", 11, 2);
        fault("drop;", 4, 2);
        fault("drop a;", 5, 2);
        fault("drop 1 1;", 7, 2);
        fault("drop 1 drop 2;", 7, 2);
        fault("join 1", 6, 2);
        fault("join 1   ", 9, 2);
        fault("miles", 5, 2);
        fault("sons 1 1 1;", 10, 2);
        fault("sons 1 1 1 1 1;", 13, 2);
        fault("sons a;", 5, 2);
        fault(";", 0, 2);
        fault("drop 1;;", 7, 2);
        fault("7;", 0, 2);
        fault("sing 1;", 0, 2);
        fault("sayab c;", 0, 2);
        fault("drops 1;", 0, 2);
        fault("dro 1;", 0, 2);
        for (String near : new String[] {"pay a b;", "lute a;", "bike a b 1;", "crop 1;", "ather 1;", "coin 1;",
            "tiles 1;", "tons 1 1 1 1;", "sax a b;", "mutt a;", "likf a b 1;", "dror 1;", "othes 1;", "joid 1;",
            "milet 1;", "sont 1 1 1 1;"}) {
            fault(near, 0, 2);
        }
        fault("say a b;  mile 1;", 10, 2);
        StringBuilder blanks = new StringBuilder("drop 1");
        while (blanks.length() < 200) {
            blanks.append(' ');
        }
        fault(blanks.toString(), 200, 2);
    }

    private static void bounds() {
        fault("drop 21;", 5, 3);
        fault("other 99;", 6, 3);
        fault("join 21;", 5, 3);
        fault("miles 21;", 6, 3);
        fault("miles 0;", 6, 3);
        fault("miles 00;", 6, 3);
        fault("like a b 21;", 9, 3);
        fault("like a a 1;", 7, 3);
        fault("like a  a", 8, 3);
        fault("sons 10 0 0 0;", 5, 3);
        fault("sons 0 0 0 10;", 11, 3);
        fault("sons 5 5 0 0;", 7, 3);
        fault("sons 3 3 3 1;", 11, 3);
        fault("sons 0 9 1 9;", 9, 3);
        fault("sons 0 0 0 0;", 11, 3);
        fault("sons 0 0 0 00", 11, 3);
    }

    private static void toldTwice() {
        fault("say ab c;say ab d;", 13, 4);
        fault("say ab c;mute ab;", 14, 4);
        fault("mute ab;say ab d;", 12, 4);
        fault("mute ab;mute ab;", 13, 4);
        fault("like a b 1;like a b 1;", 18, 4);
        fault("like a b 1;like b a 2;", 18, 4);
        fault("drop 1;drop 2;", 7, 4);
        fault("other 1;drop 1;other 1;", 15, 4);
        fault("join 1;join 1;", 7, 4);
        fault("miles 1; miles 1;", 9, 4);
        fault("sons 1 1 1 1;sons", 13, 4);
        FamilyNames x = new FamilyNames();
        Due.due("told in an earlier text", Due.tell(x, "drop 1;say a b;like a b 1;sons 9 0 0 0;"), 4);
        Due.due("may be told anew", Due.tell(x, "drop 2;say a c;like b a 2;sons 0 0 0 9;"), 4);
    }

    private static void tooMany() {
        StringBuilder text = new StringBuilder();
        for (int i = 0; i < 6; i++) {
            text.append("mute ").append((char) ('a' + i)).append(";say ").append((char) ('n' + i)).append(" x;");
        }
        String twelve = text.toString();
        int length = twelve.length();
        FamilyNames x = new FamilyNames();
        Due.due("twelve", Due.tell(x, twelve), 12);
        Due.due("twelve", x.rule(8), 12);
        fault(twelve + "say z y;", length, 5);
        fault(twelve + " mute z;", length + 1, 5);
        fault(twelve + "mute a;", length, 5);
        fault(twelve + "say 7;", length, 5);
        fault(twelve + "drop 1;say", length + 7, 5);
        Due.due("others may follow", Due.tell(x, twelve + "drop 1;like a b 1;"), 14);
    }

    /** A token is read when the one before has been taken, and the first fault counts. */
    private static void firstFault() {
        fault("drop 21!", 5, 3);
        fault("drop 1;drop 2;!", 7, 4);
        fault("sons 1 1 1 1;sons 1 1 1 1;!", 13, 4);
        fault("drop 1;drop", 7, 4);
        fault("drop 21;!", 5, 3);
        fault("join a;!", 5, 2);
        fault("drop 1;drop!", 7, 4);
        fault("sons 5 5!", 7, 3);
        fault("like a a 123;", 7, 3);
        fault("say abcd!", 4, 2);
        fault("sing 123", 0, 2);
        fault("drop 1 123", 7, 1);
        fault("mute a;mute a!", 12, 4);
        fault("drop 21;drop 1;!", 5, 3);
    }
}
