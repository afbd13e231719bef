/** Promises 4 to 8: the tape, rules told in a text, faults and their places. */
public final class TextTest {
    private static final int[] AT_FIRST = {3, 4, 4, 5, 1, 1, 1, 1, 0, 0};

    public static void main(String[] args) {
        feed();
        tapeIsFull();
        end();
        tapeAndPlaces();
        tokensAreLong();
        blanks();
        names();
        numbers();
        stops();
        anyLines();
        sayLines();
        muteLines();
        likeLines();
        numberLines();
        sonsLines();
        nameLengths();
        letterAndLike();
        bounds();
        sonsBounds();
        firstFault();
        lexicalFaults();
        misplaced();
        noLine();
        tooLong();
        theEnd();
        outOfBounds();
        sonsOutOfBounds();
        oneLetter();
        saidAlready();
        likeAlready();
        numberAlready();
        tooMany();
        notTold();
        rules();
        refusedRules();
        fault();
        rule();
        Due.finish();
    }

    private static void taken(String text, int lines) {
        FamilyNames x = new FamilyNames();
        Due.due("'" + text + "'", Due.tell(x, text), lines);
        Due.due("'" + text + "': fault", x.fault(), 0);
    }

    private static void holds(String text, int what, int number) {
        FamilyNames x = new FamilyNames();
        Due.due("'" + text + "'", Due.tell(x, text), 1);
        Due.due("'" + text + "': rule " + what, x.rule(what), number);
    }

    private static void fault(String text, int place, int kind) {
        FamilyNames x = new FamilyNames();
        Due.due("'" + text + "'", Due.tell(x, text), -10 - place);
        Due.due("'" + text + "': fault", x.fault(), kind);
    }

    private static String filled(String text, int length) {
        StringBuilder longer = new StringBuilder(text);
        while (longer.length() < length) {
            longer.append(' ');
        }
        return longer.toString();
    }

    private static void feed() {
        Due.promise(4, "Eight bytes come behind THE TAPE, the highest first:");
        FamilyNames x = new FamilyNames();
        x.feed(0x64726f7020373b20L);
        x.feed(0x6a6f696e20393b20L);
        Due.due("drop 7; join 9;", x.rules(), 2);
        Due.due("drop", x.rule(0), 7);
        Due.due("join", x.rule(2), 9);
        x.feed(0xff64726f70313b20L);
        Due.due("a highest bit is kept", x.rules(), -10);
        x.feed(0x20202020202020ffL);
        Due.due("in the lowest byte too", x.rules(), -17);
        Due.promise(4, "how many it has.");
        for (int i = 1; i <= 25; i++) {
            Due.due("feed " + i, x.feed(-i), 8 * i);
        }
        x.end(3);
        Due.due("behind three", x.feed(0), 11);
    }

    private static void tapeIsFull() {
        Due.promise(4, "FULL: more than 200.");
        FamilyNames x = new FamilyNames();
        for (int i = 1; i <= 25; i++) {
            x.feed(0x2020202020202020L);
        }
        Due.due("200 it has", x.count(7), 200);
        Due.due("208", x.feed(0), FamilyNames.FULL);
        Due.due("not a byte came", x.count(7), 200);
        x.end(193);
        Due.due("201", x.feed(0), FamilyNames.FULL);
        Due.due("not a byte came", x.count(7), 193);
        x.end(192);
        Due.due("200", x.feed(0x64726f7020313b20L), 200);
        Due.due("the last eight count", x.rules(), 1);
        Due.due("the last eight count", x.rule(0), 1);
    }

    private static void end() {
        Due.promise(5, "THE TAPE keeps its first n bytes: how many it had.");
        FamilyNames x = new FamilyNames();
        Due.due("none of none", x.end(0), 0);
        Due.type(x, "drop 7;join 9;!!");
        Due.due("all", x.end(16), 16);
        Due.due("14", x.end(14), 16);
        Due.due("had 14", x.end(14), 14);
        Due.due("14 bytes", x.count(7), 14);
        Due.due("the first ones", x.rules(), 2);
        Due.type(x, "drop 7;!");
        x.end(7);
        x.feed(0x6a6f696e20393b20L);
        Due.due("the next ones come behind", x.rules(), 2);
        Due.due("the next ones come behind", x.rule(2), 9);
        Due.type(x, "!!!!!!!!");
        Due.due("none", x.end(0), 8);
        Due.due("none", x.rules(), 0);
        Due.promise(5, "BAD.");
        Due.due("one of none", x.end(1), FamilyNames.BAD);
        x.feed(0);
        for (int n : new int[] {-1, 9, 200, 201, Integer.MIN_VALUE, Integer.MAX_VALUE}) {
            Due.due("end " + n, x.end(n), FamilyNames.BAD);
        }
        Due.due("it has them still", x.end(8), 8);
    }

    private static void tapeAndPlaces() {
        Due.terms("THE TAPE has 200 bytes, places from 0.");
        taken(filled("drop 1;", 200), 1);
        fault("!", 0, 1);
        fault(filled("", 199) + "!", 199, 1);
        fault(filled("drop 1", 200), 200, 2);
        StringBuilder most = new StringBuilder();
        for (int i = 0; i < 20; i++) {
            most.append("like a ").append((char) ('b' + i)).append("1;");
        }
        Due.due("length", most.length(), 200);
        taken(most.toString(), 20);
    }

    private static void tokensAreLong() {
        Due.terms("TOKENS, each as long as may be,");
        fault("dropa 1;", 0, 2);
        fault("drop 1 2;", 7, 2);
        fault("sons 11 1 1;", 5, 3);
        fault("say abcd;", 4, 2);
        fault("drop 1a;", 6, 2);
        taken("drop1;other2;", 2);
        taken("sons 1 1 1 1;say a b;", 2);
    }

    private static void blanks() {
        Due.terms("blanks (32) between:");
        taken("  drop   1  ;  miles 01 ; join 00;   ", 3);
        taken("drop 1;join 1;", 2);
        taken("drop 1 ;", 1);
        for (char c : new char[] {0, 9, 10, 13, 31, 33, 160}) {
            fault("drop" + c + "1;", 4, 1);
        }
    }

    private static void names() {
        Due.terms("NAMES (a .. z),");
        taken("say a z;mute z;like a z 1;", 3);
        fault("say A b;", 4, 1);
        fault("say Z b;", 4, 1);
        fault("say ` b;", 4, 1);
        fault("say { b;", 4, 1);
        fault("say a{;", 5, 1);
        fault("Say a b;", 0, 1);
        fault("sAy a b;", 0, 2);
        fault("say \u00e1 b;", 4, 1);
    }

    private static void numbers() {
        Due.terms("NUMBERS (1 or 2 figures),");
        holds("drop 0;", 0, 0);
        holds("drop 9;", 0, 9);
        holds("drop 00;", 0, 0);
        holds("drop 09;", 0, 9);
        holds("drop 10;", 0, 10);
        fault("drop 000;", 5, 1);
        fault("drop 0009;", 5, 1);
        fault("drop /;", 5, 1);
        fault("drop :;", 5, 1);
        fault("drop -1;", 5, 1);
    }

    private static void stops() {
        Due.terms("one ; .");
        fault(";", 0, 2);
        fault(";;", 0, 2);
        fault("drop 1;;", 7, 2);
        fault("drop 1:", 6, 1);
        fault("drop 1", 6, 2);
    }

    private static void anyLines() {
        Due.terms("text: { line }");
        taken("", 0);
        taken("   ", 0);
        taken(filled("", 200), 0);
        taken("drop 1;", 1);
        taken("mute a;drop 1;say b c;sons 1 0 0 0;like a b 1;other 1;miles 1;join 1;mute c;say d e;like b c 1;", 11);
    }

    private static void sayLines() {
        Due.terms("line: say NAME NAME ;");
        holds("say a b;", 8, 1);
        holds("say say so;", 8, 1);
        fault("say ;", 4, 2);
        fault("say 1 a;", 4, 2);
        fault("say a ;", 6, 2);
        fault("say a 1;", 6, 2);
        fault("say a b c;", 8, 2);
        fault("say a b 1;", 8, 2);
        fault("say a b", 7, 2);
    }

    private static void muteLines() {
        Due.terms("| mute NAME ;");
        holds("mute a;", 8, 1);
        holds("mute of;", 8, 1);
        fault("mute;", 4, 2);
        fault("mute 12;", 5, 2);
        fault("mute a b;", 7, 2);
        fault("mute a", 6, 2);
    }

    private static void likeLines() {
        Due.terms("| like LETTER LETTER N ;");
        holds("like a b 1;", 9, 1);
        fault("like;", 4, 2);
        fault("like 1 b 1;", 5, 2);
        fault("like a;", 6, 2);
        fault("like a 1;", 7, 2);
        fault("like a b;", 8, 2);
        fault("like a b c;", 9, 2);
        fault("like a b 1 1;", 11, 2);
        fault("like a b 1", 10, 2);
    }

    private static void numberLines() {
        Due.terms("| drop N ; | other N ; | join N ; | miles N ;");
        String[] heads = {"drop", "other", "join", "miles"};
        for (int what = 0; what < heads.length; what++) {
            String head = heads[what];
            int length = head.length();
            holds(head + " 7;", what, 7);
            fault(head, length, 2);
            fault(head + ";", length, 2);
            fault(head + " a;", length + 1, 2);
            fault(head + " 1 1;", length + 3, 2);
            fault(head + " 1 a;", length + 3, 2);
            fault(head + " 1", length + 2, 2);
        }
    }

    private static void sonsLines() {
        Due.terms("| sons N N N N ;");
        for (int i = 0; i < 4; i++) {
            holds("sons 1 2 3 0;", 4 + i, i == 3 ? 0 : i + 1);
        }
        fault("sons", 4, 2);
        fault("sons;", 4, 2);
        fault("sons a;", 5, 2);
        fault("sons 1;", 6, 2);
        fault("sons 1 1;", 8, 2);
        fault("sons 1 1 1;", 10, 2);
        fault("sons 1 1 1 a;", 11, 2);
        fault("sons 1 1 1 1 1;", 13, 2);
        fault("sons 1 1 1 1", 12, 2);
    }

    private static void nameLengths() {
        Due.terms("say: a NAME of 1 to 3 letters becomes 1 to 2 SOUNDS (letters);");
        FamilyNames x = Due.withWords("xabcx");
        String[] said = {"a", "b", "c", "ab", "bc", "abc"}, into = {"q", "qr"};
        for (String name : said) {
            for (String sounds : into) {
                Due.due("say", Due.tell(x, "say " + name + " " + sounds + ";"), 1);
                Due.due(name + " becomes " + sounds, x.sound(0), Due.word("xabcx".replace(name, sounds)));
            }
        }
        fault("say abcd e;", 4, 2);
        fault("say abc def;", 8, 2);
        Due.terms("mute: it becomes none.");
        for (String name : said) {
            Due.due("mute", Due.tell(x, "mute " + name + ";"), 1);
            Due.due(name + " becomes none", x.sound(0), Due.word("xabcx".replace(name, "")));
        }
        fault("mute abcd;", 5, 2);
    }

    private static void letterAndLike() {
        Due.terms("LETTER: a NAME of one letter;");
        fault("like ab c 1;", 5, 2);
        fault("like a bc 1;", 7, 2);
        taken("like a b 1;like y z 1;", 2);
        Due.terms("like: two unlike SOUNDS.");
        fault("like a a 1;", 7, 3);
        fault("like z z 1;", 7, 3);
        FamilyNames x = Due.withWords("aa", "bz");
        Due.tell(x, "like b a 1;like z a 2;");
        Due.due("like of each pair", x.apart(0, 1), 3);
    }

    private static void bounds() {
        Due.terms("N: 0 to 20;");
        String[] heads = {"drop", "other", "join"};
        for (int what = 0; what < heads.length; what++) {
            holds(heads[what] + " 0;", what, 0);
            holds(heads[what] + " 20;", what, 20);
            fault(heads[what] + " 21;", heads[what].length() + 1, 3);
            fault(heads[what] + " 99;", heads[what].length() + 1, 3);
        }
        taken("like a b 0;", 1);
        taken("like a b 20;", 1);
        fault("like a b 21;", 9, 3);
        Due.terms("miles 1 to 20;");
        holds("miles 1;", 3, 1);
        holds("miles 20;", 3, 20);
        fault("miles 0;", 6, 3);
        fault("miles 00;", 6, 3);
        fault("miles 21;", 6, 3);
    }

    private static void sonsBounds() {
        Due.terms("sons 0 to 9 each, 1 to 9 in all.");
        String[] taken = {"9 0 0 0", "0 9 0 0", "0 0 9 0", "0 0 0 9", "1 0 0 0", "0 0 0 1", "3 2 2 2", "0 4 5 0",
            "09 00 0 00"};
        for (String sons : taken) {
            taken("sons " + sons + ";", 1);
        }
        fault("sons 10 0 0 0;", 5, 3);
        fault("sons 0 10 0 0;", 7, 3);
        fault("sons 0 0 10 0;", 9, 3);
        fault("sons 0 0 0 10;", 11, 3);
        fault("sons 3 3 2 2;", 11, 3);
        fault("sons 0 0 0 0;", 11, 3);
    }

    private static void firstFault() {
        Due.terms("FAULTS, the first met as it is read (a TOKEN is read when the one before has been taken):");
        fault("drop 21!", 5, 3);
        fault("drop 21", 5, 3);
        fault("drop 1;drop 2;!", 7, 4);
        fault("drop 1;drop!", 7, 4);
        fault("drop 1;drop", 7, 4);
        fault("join a;!", 5, 2);
        fault("sons 5 5!", 7, 3);
        fault("sons 0 0 0 00", 11, 3);
        fault("like a a 123;", 7, 3);
        fault("like a b 1;like b a", 18, 4);
        fault("say abcd!", 4, 2);
        fault("sing 123", 0, 2);
        fault("drop 1 123", 7, 1);
        fault("mute a;mute a!", 12, 4);
        fault("drop 21;drop 1;!", 5, 3);
        fault("!drop 21;", 0, 1);
    }

    private static void lexicalFaults() {
        Due.terms("1 no TOKEN, a NUMBER that is too long (its first byte).");
        fault("   $", 3, 1);
        fault("A", 0, 1);
        fault("drop 3;\n", 7, 1);
        fault("drop 3;-", 7, 1);
        fault("say a:b;", 5, 1);
        fault("like a b 4\u00e9;", 10, 1);
        fault("\u00ff", 0, 1);
        fault("\u0000", 0, 1);
        fault("\u0080", 0, 1);
        fault("drop 100;", 5, 1);
        fault("drop 001;", 5, 1);
        fault("drop  1234567890123;", 6, 1);
        fault("123;", 0, 1);
        fault("say 1234 a;", 4, 1);
        fault("drop 1 123;", 7, 1);
        fault("drop 4294967297;", 5, 1);
    }

    private static void misplaced() {
        Due.terms("2 a TOKEN that can not stand there");
        fault("7;", 0, 2);
        fault("drop drop;", 5, 2);
        fault("drop 1 drop 2;", 7, 2);
        fault("say;", 3, 2);
        fault("sons 1 1 ;;", 9, 2);
    }

    private static void noLine() {
        Due.terms("(a NAME that begins no line;");
        fault("sing 1;", 0, 2);
        fault("sayab c;", 0, 2);
        fault("drops 1;", 0, 2);
        fault("dro 1;", 0, 2);
        fault("a", 0, 2);
        fault("say a b;  mile 1;", 10, 2);
        String[] near = {"pay a b;", "lute a;", "bike a b 1;", "crop 1;", "ather 1;", "coin 1;", "tiles 1;",
            "tons 1 1 1 1;", "sax a b;", "mutt a;", "likf a b 1;", "dror 1;", "othes 1;", "joid 1;", "milet 1;",
            "sont 1 1 1 1;"};
        for (String text : near) {
            fault(text, 0, 2);
        }
    }

    private static void tooLong() {
        Due.terms("one that is too long;");
        fault("say abcd e;", 4, 2);
        fault("say ab cde;", 7, 2);
        fault("mute  abcd;", 6, 2);
        fault("like ab b 1;", 5, 2);
        fault("like a ab 1;", 7, 2);
        fault("say abcdefghijklmnopqrstuvwxyz a;", 4, 2);
    }

    private static void theEnd() {
        Due.terms("or the end: the length).");
        fault("say", 3, 2);
        fault("say  ", 5, 2);
        fault("say ab", 6, 2);
        fault("say ab c", 8, 2);
        fault("drop 1;join 1   ", 16, 2);
        fault("sons 1 1 1", 10, 2);
        fault(filled("miles", 200), 200, 2);
    }

    private static void outOfBounds() {
        Due.terms("3 a NUMBER out of its bounds");
        fault("drop 21;", 5, 3);
        fault("drop  99;", 6, 3);
        fault("like a b 21;", 9, 3);
        fault("miles 0;", 6, 3);
    }

    private static void sonsOutOfBounds() {
        Due.terms("(sons: at the one by which the sum is too great,");
        fault("sons 10 0 0 0;", 5, 3);
        fault("sons 5 5 0 0;", 7, 3);
        fault("sons 0 9 1 9;", 9, 3);
        fault("sons 3 3 3 1;", 11, 3);
        fault("sons 3 3 3 99;", 11, 3);
        Due.terms("at the last one, if it is 0);");
        fault("sons 0 0 0 0;", 11, 3);
        fault("sons  0 0  0   00;", 15, 3);
        taken("sons 0 0 0 1;", 1);
        taken("sons 1 0 0 0;", 1);
    }

    private static void oneLetter() {
        Due.terms("two LETTERS that are one (the second).");
        fault("like a a 1;", 7, 3);
        fault("like  z   z", 10, 3);
        fault("like a b 1;like b b 1;", 18, 3);
    }

    private static void saidAlready() {
        Due.terms("4 what is told already: the NAME that is said, is mute (it);");
        fault("say ab c;say ab d;", 13, 4);
        fault("say ab c;mute ab;", 14, 4);
        fault("mute ab;say ab d;", 12, 4);
        fault("mute ab;mute  ab;", 14, 4);
        taken("say ab c;say a c;say b c;say abc c;say ba c;", 5);
        taken("mute a;mute aa;mute aaa;", 3);
        FamilyNames x = new FamilyNames();
        Due.due("told in an earlier text", Due.tell(x, "say a b;mute b;"), 2);
        Due.due("may be told anew", Due.tell(x, "say a c;mute b;"), 2);
        Due.due("refused", Due.tell(x, "say q c;mute r;!"), -25);
        Due.due("told in a text that was refused", Due.tell(x, "say q c;mute r;"), 2);
    }

    private static void likeAlready() {
        Due.terms("a pair of like, either way round (the second LETTER);");
        fault("like a b 1;like a b 1;", 18, 4);
        fault("like a b 1;like b  a 2;", 19, 4);
        taken("like a b 1;like a c 1;like b c 1;like c d 1;", 4);
        FamilyNames x = new FamilyNames();
        Due.due("told in an earlier text", Due.tell(x, "like a b 1;"), 1);
        Due.due("may be told anew", Due.tell(x, "like b a 2;"), 1);
        Due.due("refused", Due.tell(x, "like c d 1;!"), -21);
        Due.due("told in a text that was refused", Due.tell(x, "like c d 1;"), 1);
    }

    private static void numberAlready() {
        Due.terms("drop, other, join, miles, sons (its NAME).");
        String[] lines = {"drop 1;", "other 1;", "join 1;", "miles 1;", "sons 1 1 1 1;"};
        StringBuilder all = new StringBuilder();
        for (String line : lines) {
            fault(line + " " + line, line.length() + 1, 4);
            all.append(line);
        }
        taken(all.toString(), 5);
        FamilyNames x = new FamilyNames();
        for (String line : lines) {
            fault(all + line, all.length(), 4);
            Due.due("told", Due.tell(x, line), 1);
            Due.due("may be told anew", Due.tell(x, line), 1);
        }
        Due.due("refused", Due.tell(x, all + "!"), -10 - all.length());
        Due.due("told in a text that was refused", Due.tell(x, all.toString()), 5);
    }

    private static void tooMany() {
        Due.terms("5 the 13th say or mute (its NAME).");
        StringBuilder text = new StringBuilder();
        for (int i = 0; i < 6; i++) {
            text.append("mute ").append((char) ('a' + i)).append(";say ").append((char) ('n' + i)).append(" x;");
        }
        String twelve = text.toString();
        int length = twelve.length();
        FamilyNames x = new FamilyNames();
        Due.due("twelve", Due.tell(x, twelve), 12);
        Due.due("twelve", x.rule(8), 12);
        Due.due("others may follow", Due.tell(x, twelve + "drop 1;like a b 1;"), 14);
        Due.due("twelve anew", Due.tell(x, twelve), 12);
        fault(twelve + "say z y;", length, 5);
        fault(twelve + " mute z;", length + 1, 5);
        fault(twelve + "mute a;", length, 5);
        fault(twelve + "say 7;", length, 5);
        fault(twelve + "drop 1;say", length + 7, 5);
        FamilyNames all = Due.withWords("abcdefnopq", "rs");
        Due.tell(all, twelve);
        Due.due("each of the twelve is done", all.sound(0), Due.word("xxxx"));
        Due.due("each of the twelve is done", all.sound(1), Due.word("xx"));
    }

    private static void notTold() {
        Due.terms("What is not told: drop 3, other 4, join 4, miles 5, sons 1 1 1 1; no say, mute, like.");
        FamilyNames x = new FamilyNames();
        Due.tell(x, "mute a;");
        for (int what = 0; what < 8; what++) {
            Due.due("rule " + what, x.rule(what), AT_FIRST[what]);
        }
        Due.due("no like", x.rule(9), 0);
        Due.tell(x, "like a b 1;");
        Due.due("no say, mute", x.rule(8), 0);
        Due.terms("A text that is taken tells all.");
        for (String text : new String[] {"", "   ", "drop 3;"}) {
            Due.tell(x, "drop 9;other 9;join 9;miles 9;sons 2 2 2 2;say k l;mute m;like u v 1;");
            Due.tell(x, text);
            for (int what = 0; what < AT_FIRST.length; what++) {
                Due.due("'" + text + "': rule " + what, x.rule(what), AT_FIRST[what]);
            }
        }
        FamilyNames words = Due.withWords("kab", "kac", "mab");
        Due.tell(words, "say k l;mute m;like b c 1;");
        Due.tell(words, "");
        Due.due("no say any more", words.sound(0), Due.word("kab"));
        Due.due("no mute any more", words.sounds(2), 3);
        Due.due("no like any more", words.apart(0, 1), 4);
    }

    private static void rules() {
        FamilyNames x = new FamilyNames();
        Due.promise(6, "THE TAPE (empty then) tells the rules:");
        Due.type(x, "drop 7;");
        Due.due("only now", x.rule(0), 3);
        Due.due("told", x.rules(), 1);
        Due.due("it holds", x.rule(0), 7);
        Due.due("empty then", x.count(7), 0);
        x.feed(0x2121212121212121L);
        Due.due("refused", x.rules(), -10);
        Due.due("empty then, too", x.count(7), 0);
        Due.due("nothing is left of it", x.rules(), 0);
        Due.promise(6, "how many lines;");
        Due.due("none", Due.tell(x, ""), 0);
        Due.due("one", Due.tell(x, "drop 1;"), 1);
        Due.due("two", Due.tell(x, "drop 1;say a b;"), 2);
    }

    private static void refusedRules() {
        Due.promise(6, "-10 less the place of its FAULT:");
        FamilyNames x = Due.withWords("kab", "kac");
        Due.due("place 0", Due.tell(x, "!"), -10);
        Due.due("place 1", Due.tell(x, " !"), -11);
        Due.due("place 199", Due.tell(x, filled("", 199) + "!"), -209);
        Due.due("place 200", Due.tell(x, filled("drop", 200)), -210);
        Due.promise(6, "those that were told stay.");
        Due.due("told", Due.tell(x, "drop 9;other 8;join 7;miles 6;sons 2 3 1 2;say k l;like b c 1;"), 7);
        Due.due("refused", Due.tell(x, "drop 1;say a b;like x y 1;join 1;mute kab;sons 9 0 0 0;!"), -10 - 55);
        Due.due("refused again", Due.tell(x, "other 1;miles 1;like b c 5;mute k;join"), -10 - 38);
        int[] what = {9, 8, 7, 6, 2, 3, 1, 2, 1, 1};
        for (int i = 0; i < what.length; i++) {
            Due.due("rule " + i, x.rule(i), what[i]);
        }
        Due.due("sound", x.sound(0), Due.word("lab"));
        Due.due("apart", x.apart(0, 1), 1);
        Due.due("name", x.name(1), 0);
        x.spelling(Due.word("kad"));
        Due.due("for what comes later, too", x.sound(2), Due.word("lad"));
    }

    private static void fault() {
        FamilyNames x = new FamilyNames();
        Due.promise(7, "The FAULT of the latest rules();");
        String[] texts = {"!", "say", "drop 21;", "drop 1;drop 1;",
            "mute a;mute b;mute c;mute d;mute e;mute f;mute g;mute h;mute i;mute j;mute k;mute l;mute m;"};
        for (int kind = 1; kind <= 5; kind++) {
            Due.tell(x, texts[kind - 1]);
            Due.due("fault " + kind, x.fault(), kind);
            Due.due("asked again", x.fault(), kind);
            x.feed(0);
            x.end(0);
            Due.due("the tape alone changes nothing", x.fault(), kind);
        }
        Due.promise(7, "0.");
        Due.tell(x, "drop 1;");
        Due.due("taken", x.fault(), 0);
        Due.tell(x, "!");
        Due.tell(x, "");
        Due.due("taken, empty", x.fault(), 0);
        Due.due("a new object", new FamilyNames().fault(), 0);
    }

    private static void rule() {
        Due.promise(8, "What holds: 0 drop, 1 other, 2 join, 3 miles, 4 to 7 sons,"
            + " 8 how many say and mute, 9 how many like.");
        FamilyNames x = new FamilyNames();
        Due.tell(x, "drop 11;other 12;join 13;miles 14;sons 0 1 2 4;say a b;mute b;mute c;like a b 0;like a c 0;"
            + "like a d 0;like b c 0;");
        int[] what = {11, 12, 13, 14, 0, 1, 2, 4, 3, 4};
        for (int i = 0; i < what.length; i++) {
            Due.due("rule " + i, x.rule(i), what[i]);
        }
        Due.promise(8, "BAD.");
        for (int i : new int[] {-1, 10, 11, Integer.MIN_VALUE, Integer.MAX_VALUE}) {
            Due.due("rule " + i, x.rule(i), FamilyNames.BAD);
        }
    }
}
