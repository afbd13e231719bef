import java.util.Random;

/** Runs of calls by chance, asked of the class and of the model: all answers must be the same. */
public final class ModelTest {
    private static final int RUNS = 1500, CALLS = 300;
    private static final int SMALL_WORDS = 6;
    private static final String[] HEADS = {"say", "mute", "like", "drop", "other", "join", "miles", "sons"};

    private final Random chance;
    private final FamilyNames x = new FamilyNames();
    private final Model m = new Model();
    private final String run;
    private int words, places, books, lines;

    private ModelTest(int seed) {
        chance = new Random(seed);
        run = "run " + seed + ": ";
    }

    public static void main(String[] args) {
        for (int seed = 0; seed < RUNS; seed++) {
            new ModelTest(seed).run();
        }
        for (int seed = 0; seed < 40; seed++) {
            manyWords(seed);
        }
        Due.finish();
    }

    private void run() {
        for (int i = 0; i < CALLS; i++) {
            switch (chance.nextInt(6)) {
                case 0: aboutWords(); break;
                case 1: aboutTextOrChains(); break;
                case 2: aboutBooks(); break;
                case 3: aboutLines(); break;
                case 4: aboutOrigins(); break;
                default: aboutSheets(); break;
            }
        }
    }

    private void aboutTextOrChains() {
        if (chance.nextInt(3) == 0) {
            aboutText();
        } else {
            aboutChains();
        }
    }

    private void same(String call, long got, long want) {
        Due.due(run + call, got, want);
    }

    /** Mostly one that is there, now and then one that is not. */
    private int of(int many) {
        return chance.nextInt(12) == 0 ? chance.nextInt(12) - 5 : chance.nextInt(Math.max(1, many));
    }

    private int what(int many) {
        return chance.nextInt(15) == 0 ? chance.nextInt(30) - 3 : chance.nextInt(many);
    }

    private String letters(int most) {
        StringBuilder word = new StringBuilder();
        int many = 1 + chance.nextInt(most);
        for (int i = 0; i < many; i++) {
            word.append((char) ('a' + chance.nextInt(4)));
        }
        return word.toString();
    }

    private void aboutWords() {
        int s = of(words), t = of(words);
        // Few spellings, as the model tries every chain.
        if (words < SMALL_WORDS) {
            long word = chance.nextInt(8) == 0 ? chance.nextInt(3000) - 20 : Due.word(letters(chance.nextInt(4) == 0 ? 10 : 5));
            same("spelling " + word, x.spelling(word), m.spelling(word));
            words = m.count(0);
        }
        same("letters " + s, x.letters(s), m.letters(s));
        same("sound " + s, x.sound(s), m.sound(s));
        same("sounds " + s, x.sounds(s), m.sounds(s));
        same("apart " + s + " " + t, x.apart(s, t), m.apart(s, t));
        same("name " + s, x.name(s), m.name(s));
    }

    private void aboutChains() {
        int s = of(words), t = of(words);
        int what = chance.nextInt(3) == 0 ? chance.nextInt(29) - 1 : chance.nextBoolean() ? chance.nextInt(2) : 10 + chance.nextInt(4);
        same("chain " + s + " " + t + " " + what, x.chain(s, t, what), m.chain(s, t, what));
        int asked = what(3);
        same("standing " + asked, x.standing(asked), m.standing(asked));
    }

    private String ruleLine() {
        String head = HEADS[chance.nextInt(HEADS.length)];
        String line = head + " ";
        if (head.equals("say")) {
            line += letters(3) + " " + letters(2);
        } else if (head.equals("mute")) {
            line += letters(3);
        } else if (head.equals("like")) {
            line += letters(1) + " " + letters(1) + " " + chance.nextInt(8);
        } else if (head.equals("sons")) {
            line += chance.nextInt(4) + " " + chance.nextInt(4) + " " + chance.nextInt(4) + " " + chance.nextInt(3);
        } else {
            line += chance.nextInt(chance.nextInt(10) == 0 ? 22 : 12);
        }
        return line + ";";
    }

    private void aboutText() {
        StringBuilder text = new StringBuilder();
        int many = chance.nextInt(chance.nextInt(6) == 0 ? 22 : 6);
        for (int i = 0; i < many; i++) {
            text.append(ruleLine());
        }
        if (chance.nextInt(4) == 0 && text.length() > 0) {
            text.setCharAt(chance.nextInt(text.length()), " ;a7!d1".charAt(chance.nextInt(7)));
        }
        text.setLength(Math.min(text.length(), 200 - chance.nextInt(8)));
        if (chance.nextInt(8) == 0) {
            text.setLength(chance.nextInt(text.length() + 1));
        }
        byte[] bytes = text.toString().getBytes(java.nio.charset.StandardCharsets.ISO_8859_1);
        for (int i = 0; i < bytes.length; i += 8) {
            long v = Due.eightBytes(bytes, i);
            same("feed " + v, x.feed(v), m.feed(v));
        }
        int n = chance.nextInt(20) == 0 ? chance.nextInt(220) - 5 : bytes.length;
        same("end " + n, x.end(n), m.end(n));
        if (chance.nextInt(10) != 0) {
            same("rules '" + text + "'", x.rules(), m.rules());
        }
        same("fault '" + text + "'", x.fault(), m.fault());
        for (int what = -1; what < 11; what++) {
            same("rule " + what, x.rule(what), m.rule(what));
        }
        int g = what(4), what = what(2);
        same("dies " + g + " " + what, x.dies(g, what), m.dies(g, what));
    }

    private int year() {
        return chance.nextInt(20) == 0 ? 1490 + chance.nextInt(420) : 1600 + chance.nextInt(50);
    }

    private void aboutBooks() {
        if (chance.nextInt(6) == 0) {
            int px = chance.nextInt(15) == 0 ? chance.nextInt(110) - 5 : chance.nextInt(9), py = px % 3 + chance.nextInt(3);
            same("place " + px + " " + py, x.place(px, py), m.place(px, py));
            int p = of(places), from = year(), to = from + chance.nextInt(chance.nextInt(9) == 0 ? 80 : 20) - 1;
            same("book " + p + " " + from + " " + to, x.book(p, from, to), m.book(p, from, to));
            places = m.count(1);
            books = m.count(2);
        }
        int b = of(books), year = year(), what = what(6);
        boolean is = chance.nextBoolean();
        if (chance.nextInt(3) == 0) {
            same("hole " + b + " " + year + " " + is, x.hole(b, year, is), m.hole(b, year, is));
        }
        same("bookOf " + b + " " + what, x.bookOf(b, what), m.bookOf(b, what));
    }

    private void aboutLines() {
        int b = of(books), year = year(), s = of(words), kind = what(5);
        if (chance.nextInt(3) == 0) {
            same("line " + b + " " + year + " " + s + " " + kind, x.line(b, year, s, kind), m.line(b, year, s, kind));
            lines = m.count(3);
        }
        int k = of(lines), other = of(lines), what = what(8);
        int day = m.count(5) + chance.nextInt(5) - (chance.nextInt(9) == 0 ? 3 : 0);
        same("day " + day, x.day(day), m.day(day));
        same("again " + k + " " + s, x.again(k, s), m.again(k, s));
        same("lineOf " + k + " " + what, x.lineOf(k, what), m.lineOf(k, what));
        int asked = chance.nextInt(20) == 0 ? chance.nextInt(1100) - 50 : chance.nextInt(m.count(5) + 2);
        same("known " + k + " " + asked, x.known(k, asked), m.known(k, asked));
        int f = chance.nextInt(8) == 0 ? -4 : of(lines);
        same("father " + k + " " + f, x.father(k, f), m.father(k, f));
        same("kin " + k + " " + other, x.kin(k, other), m.kin(k, other));
        same("related " + k + " " + other, x.related(k, other), m.related(k, other));
        int which = what(3);
        same("issue " + k + " " + which, x.issue(k, which), m.issue(k, which));
    }

    private void aboutOrigins() {
        int s = of(words), p = of(places), from = year(), to = from + chance.nextInt(40) - 2, what = what(3);
        same("bearers " + s + " " + p + " " + from + " " + to + " " + what,
            x.bearers(s, p, from, to, what), m.bearers(s, p, from, to, what));
        same("first " + s + " " + p, x.first(s, p), m.first(s, p));
        int asked = what(4);
        same("starts " + s + " " + asked, x.starts(s, asked), m.starts(s, asked));
        int set = chance.nextInt(6) == 0 ? chance.nextInt(600) - 50 : m.starts(s, 2) & chance.nextInt(256);
        same("judge " + s + " " + set, x.judge(s, set), m.judge(s, set));
        if (chance.nextInt(4) == 0) {
            same("pace " + s, x.pace(s), m.pace(s));
        }
    }

    private void aboutSheets() {
        int k = what(4), lane = what(3);
        if (chance.nextInt(4) == 0) {
            int n = chance.nextInt(9) == 0 ? chance.nextInt(90) - 10 : chance.nextInt(20);
            same("sheet " + k + " " + lane + " " + n, x.sheet(k, lane, n), m.sheet(k, lane, n));
            for (int i = 0; i < n; i++) {
                int v = chance.nextInt(4) == 0 ? of(words) : -1 - (chance.nextInt(9) == 0 ? 1 << 16 : 0);
                same("lay " + k + " " + i + " " + v, x.lay(k, i, v), m.lay(k, i, v));
            }
        }
        int i = chance.nextInt(20), v = chance.nextInt(5) == 0 ? chance.nextInt() : of(words);
        same("lay " + k + " " + i + " " + v, x.lay(k, i, v), m.lay(k, i, v));
        int b = of(books);
        if (chance.nextInt(4) == 0) {
            same("read " + b + " " + k + " " + lane, x.read(b, k, lane), m.read(b, k, lane));
            lines = m.count(3);
            same("holes", x.bookOf(b, 3), m.bookOf(b, 3));
        }
        same("torn", x.torn(), m.torn());
        int what = what(9);
        same("count " + what, x.count(what), m.count(what));
    }

    /** Sixteen spellings: every set of them is tried, but not every chain. */
    private static void manyWords(int seed) {
        ModelTest test = new ModelTest(seed);
        while (test.words < 16) {
            long word = Due.word(test.letters(1 + seed % 5 + 2));
            test.same("spelling " + word, test.x.spelling(word), test.m.spelling(word));
            test.words = test.m.count(0);
        }
        for (int join = 0; join <= 12; join += 2) {
            String text = "join " + (join < 10 ? "0" : "") + join + ";";
            byte[] bytes = text.getBytes(java.nio.charset.StandardCharsets.ISO_8859_1);
            long v = Due.eightBytes(bytes, 0);
            test.same("feed", test.x.feed(v), test.m.feed(v));
            test.same("rules", test.x.rules(), test.m.rules());
            for (int what = 0; what < 3; what++) {
                test.same("standing " + what, test.x.standing(what), test.m.standing(what));
            }
            for (int s = 0; s < 16; s++) {
                test.same("name " + s, test.x.name(s), test.m.name(s));
            }
        }
    }
}
