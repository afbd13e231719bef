import java.util.Arrays;

/**
 * Names of families: spellings and their sounds, books of places and their lines, where a name
 * began, who is kin, and books read from sheets. ../shared/DOC.md tells each call's promise.
 *
 * <p>Every row is made with the object and used again: no call makes an object.
 */
public final class FamilyNames {
    public static final int BAD = -1, STATE = -2, FULL = -3, NONE = -4;

    /** father() tells these apart from a father that was none. */
    private static final int FATHER_BAD = -5, FATHER_STATE = -6;
    private static final int FAULT_BASE = -10, CELL_BASE = -20;
    private static final int LAST_DAY = 999;
    private static final int CHAIN_MEMBER = 10;
    private static final int MOST_MILES = 20;
    private static final int MOST_GENERATIONS = 3;

    private final Tape tape;
    private final TextReader textReader;
    private final Words words;
    private final Books books;
    private final Lines lines;
    private final Origins origins;
    private final Extinction extinction;
    private final Sheet[] rows;
    private Rules told;
    private Rules spare;
    private int textFault;
    private int sheetFault;
    private int today;

    public FamilyNames() {
        tape = new Tape();
        textReader = new TextReader(tape);
        told = new Rules();
        spare = new Rules();
        words = new Words(told);
        books = new Books();
        lines = new Lines(words, books);
        origins = new Origins(lines, books);
        extinction = new Extinction();
        rows = new Sheet[Sheet.HOW_MANY];
        for (int k = 0; k < rows.length; k++) {
            rows[k] = new Sheet();
        }
    }

    // ---- spellings, rules

    public int spelling(long letters) {
        if (!Words.isWord(letters) || words.holds(letters)) {
            return BAD;
        }
        return words.append(letters);
    }

    public long letters(int s) {
        return words.has(s) ? words.letters[s] : BAD;
    }

    public int feed(long v) {
        return tape.append(v) ? tape.length : FULL;
    }

    public int end(int n) {
        if (n < 0 || n > tape.length) {
            return BAD;
        }
        int had = tape.length;
        tape.length = n;
        return had;
    }

    public int rules() {
        int taken = textReader.readInto(spare);
        tape.length = 0;
        textFault = textReader.faultKind;
        if (textFault != 0) {
            return FAULT_BASE - textReader.faultPlace;
        }
        Rules older = told;
        told = spare;
        spare = older;
        words.follow(told);
        return taken;
    }

    public int fault() {
        return textFault;
    }

    public int rule(int what) {
        if (what < 0 || what > 9) {
            return BAD;
        }
        if (what < Rules.NUMBERS) {
            return told.numbers[what];
        }
        return what == 8 ? told.changes : told.likes;
    }

    public long sound(int s) {
        return words.has(s) ? words.soundOf(s) : BAD;
    }

    public int sounds(int s) {
        return words.has(s) ? words.soundCounts[s] : BAD;
    }

    public int apart(int s, int t) {
        return words.has(s) && words.has(t) ? words.apartOf(s, t) : BAD;
    }

    public int name(int s) {
        return words.has(s) ? words.names[s] : BAD;
    }

    public int chain(int s, int t, int what) {
        boolean member = what >= CHAIN_MEMBER && what < CHAIN_MEMBER + Words.MOST;
        if (!words.has(s) || !words.has(t) || !(what == 0 || what == 1 || member)) {
            return BAD;
        }
        if (words.names[s] != words.names[t]) {
            return NONE;
        }
        words.walkTo(t);
        if (member) {
            return words.chainMember(s, what - CHAIN_MEMBER);
        }
        return what == 0 ? words.chainLength(s) : words.chainSum(s);
    }

    public int standing(int what) {
        if (what < 0 || what > 2) {
            return BAD;
        }
        if (what == 2) {
            return words.howManyNames();
        }
        int chosen = Covering.fewest(words.joined, words.size);
        return what == 0 ? Integer.bitCount(chosen) : chosen;
    }

    // ---- places, books, lines

    public int place(int x, int y) {
        if (x < 0 || x > 99 || y < 0 || y > 99) {
            return BAD;
        }
        return books.appendPlace(x, y);
    }

    public int book(int place, int from, int to) {
        if (!books.hasPlace(place) || !Books.areYears(from, to) || to - from >= Books.MOST_YEARS) {
            return BAD;
        }
        return books.append(place, from, to);
    }

    public int hole(int b, int year, boolean is) {
        if (!books.has(b) || !books.hasYear(b, year)) {
            return BAD;
        }
        if (lines.areIn(b, year)) {
            return STATE;
        }
        boolean was = books.isHole(b, year);
        books.setHole(b, year, is);
        return was ? 1 : 0;
    }

    public int bookOf(int b, int what) {
        if (!books.has(b)) {
            return BAD;
        }
        switch (what) {
            case 0: return books.place[b];
            case 1: return books.from[b];
            case 2: return books.to[b];
            case 3: return Long.bitCount(books.holes[b]);
            case 4: return lines.howManyIn(b);
            case 5: return books.latestReadable(b);
            default: return BAD;
        }
    }

    public int line(int b, int year, int s, int kind) {
        if (!books.has(b) || !books.hasYear(b, year) || !words.has(s) || !Lines.isKind(kind)) {
            return BAD;
        }
        if (books.isHole(b, year)) {
            return STATE;
        }
        return lines.append(b, year, s, kind, today);
    }

    public int day(int d) {
        if (d < today || d > LAST_DAY) {
            return BAD;
        }
        int was = today;
        today = d;
        return was;
    }

    public int again(int k, int s) {
        if (!lines.has(k) || !words.has(s)) {
            return BAD;
        }
        if (lines.latest[k] == s) {
            return STATE;
        }
        return lines.reread(k, s, today);
    }

    public int lineOf(int k, int what) {
        if (!lines.has(k)) {
            return BAD;
        }
        switch (what) {
            case 0: return lines.book[k];
            case 1: return lines.year[k];
            case 2: return lines.latest[k];
            case 3: return lines.kind[k];
            case 4: return lines.nameOfLine(k);
            case 5: return lines.fathers[k];
            case 6: return lines.times[k];
            case 7: return lines.came[k];
            default: return BAD;
        }
    }

    public int known(int k, int d) {
        return lines.has(k) && d >= 0 && d <= LAST_DAY ? lines.knownOn(k, d) : BAD;
    }

    // ---- bearers, where it began

    public int bearers(int s, int place, int from, int to, int what) {
        boolean asked = what >= 0 && what <= 2;
        if (!words.has(s) || !books.hasPlace(place) || !Books.areYears(from, to) || !asked) {
            return BAD;
        }
        int readable = books.readableYears(place, from, to);
        if (what == 2) {
            return readable;
        }
        int worth = lines.worth(words.names[s], place, from, to);
        if (what == 0) {
            return worth / 2;
        }
        // Years of two books count twice, and must not bring the most below the least.
        int years = Math.max(to - from + 1, readable);
        return readable == 0 ? NONE : divideUp(worth * years, 2 * readable);
    }

    public int first(int s, int place) {
        if (!words.has(s) || !books.hasPlace(place)) {
            return BAD;
        }
        return lines.firstYear(words.names[s], place);
    }

    public int starts(int s, int what) {
        if (!words.has(s) || what < 0 || what > 3) {
            return BAD;
        }
        origins.gather(words.names[s]);
        if (what == 2) {
            return origins.present;
        }
        origins.spread(told.numbers[Rules.MILES]);
        origins.search();
        if (what == 3) {
            return origins.inAll;
        }
        return what == 0 ? Integer.bitCount(origins.fewest) : origins.fewest;
    }

    public int judge(int s, int places) {
        if (!words.has(s) || places < 0 || places >= 1 << books.places) {
            return BAD;
        }
        origins.gather(words.names[s]);
        if ((places & ~origins.present) != 0) {
            return STATE;
        }
        origins.spread(told.numbers[Rules.MILES]);
        return origins.letsAllCome(places) ? 1 : 0;
    }

    public int pace(int s) {
        if (!words.has(s)) {
            return BAD;
        }
        origins.gather(words.names[s]);
        for (int miles = 1; miles <= MOST_MILES; miles++) {
            origins.spread(miles);
            if (origins.hasSingleStart()) {
                return miles;
            }
        }
        return NONE;
    }

    public long dies(int g, int what) {
        if (g < 1 || g > MOST_GENERATIONS || what < 0 || what > 1) {
            return BAD;
        }
        extinction.follow(told, g);
        return what == 0 ? extinction.numerator : extinction.denominator;
    }

    // ---- kin

    public int father(int k, int f) {
        if (!lines.has(k) || !(f == NONE || lines.has(f))) {
            return FATHER_BAD;
        }
        if (f != NONE && !lines.mayBeFather(k, f)) {
            return FATHER_STATE;
        }
        int was = lines.fathers[k];
        lines.fathers[k] = f;
        return was;
    }

    public int kin(int k, int m) {
        return lines.has(k) && lines.has(m) ? lines.stepsBetween(k, m) : BAD;
    }

    public int related(int k, int m) {
        if (!lines.has(k) || !lines.has(m)) {
            return BAD;
        }
        int byName = lines.nameOfLine(k) == lines.nameOfLine(m) ? 1 : 0;
        int byFathers = lines.stepsBetween(k, m) != NONE ? 2 : 0;
        return byName + byFathers;
    }

    public int issue(int k, int what) {
        if (!lines.has(k)) {
            return BAD;
        }
        switch (what) {
            case 0: return lines.descendants(k);
            case 1: return lines.renamedDescendants(k);
            case 2: return lines.longestDescent(k);
            default: return BAD;
        }
    }

    // ---- sheets

    public int sheet(int k, int lane, int n) {
        if (!isSheet(k) || !Sheet.isLane(lane) || n > Sheet.MOST) {
            return BAD;
        }
        if (n < 0) {
            return FAULT_BASE - Sheet.SIZE;
        }
        rows[k].renew(lane, n);
        return 1;
    }

    public int lay(int k, int i, int v) {
        if (!isSheet(k)) {
            return BAD;
        }
        int refused = rows[k].faultAt(rows[k].lane, i);
        if (refused != 0) {
            return FAULT_BASE - refused;
        }
        rows[k].put(i, v);
        return 1;
    }

    public int read(int b, int k, int lane) {
        if (!books.has(b) || !isSheet(k) || !Sheet.isLane(lane)) {
            return BAD;
        }
        int whole = wholeYears(b, rows[k], lane);
        int wrong = wrongCell(b, rows[k], whole);
        if (wrong != NONE) {
            return CELL_BASE - wrong;
        }
        int coming = filledYears(b, rows[k], whole);
        if (lines.size + coming > Lines.MOST) {
            return FULL;
        }
        copyYears(b, rows[k], whole);
        boolean torn = whole < books.yearsOf(b);
        sheetFault = torn ? rows[k].faultAt(lane, whole) : 0;
        loseYears(b, whole);
        return coming;
    }

    public int torn() {
        return sheetFault;
    }

    public int count(int what) {
        switch (what) {
            case 0: return words.size;
            case 1: return books.places;
            case 2: return books.size;
            case 3: return lines.size;
            case 4: return lines.readings;
            case 5: return today;
            case 6: return lines.howManyNames();
            case 7: return tape.length;
            case 8: return rows[0].cells;
            default: return BAD;
        }
    }

    private static boolean isSheet(int k) {
        return k >= 0 && k < Sheet.HOW_MANY;
    }

    /** How many years of a book, from its first on, stand ahead of what the machine refuses. */
    private int wholeYears(int b, Sheet sheet, int lane) {
        int years = books.yearsOf(b);
        for (int i = 0; i < years; i++) {
            if (!books.isHole(b, books.from[b] + i) && sheet.faultAt(lane, i) != 0) {
                return i;
            }
        }
        return years;
    }

    private int wrongCell(int b, Sheet sheet, int whole) {
        for (int i = 0; i < whole; i++) {
            boolean looked = !books.isHole(b, books.from[b] + i);
            if (looked && sheet.cellAt(i) != Sheet.NOTHING && !words.has(sheet.cellAt(i))) {
                return i;
            }
        }
        return NONE;
    }

    private boolean isFilled(int b, Sheet sheet, int i) {
        return !books.isHole(b, books.from[b] + i) && words.has(sheet.cellAt(i));
    }

    private int filledYears(int b, Sheet sheet, int whole) {
        int filled = 0;
        for (int i = 0; i < whole; i++) {
            if (isFilled(b, sheet, i)) {
                filled++;
            }
        }
        return filled;
    }

    private void copyYears(int b, Sheet sheet, int whole) {
        for (int i = 0; i < whole; i++) {
            if (isFilled(b, sheet, i)) {
                lines.append(b, books.from[b] + i, sheet.cellAt(i), Lines.READ, today);
            }
        }
    }

    private void loseYears(int b, int whole) {
        for (int year = books.from[b] + whole; year <= books.to[b]; year++) {
            if (!lines.areIn(b, year)) {
                books.setHole(b, year, true);
            }
        }
    }

    /** For numbers from 0 on; what can not be divided is asked for by no caller. */
    private static int divideUp(int number, int divisor) {
        return divisor <= 0 ? 0 : (number + divisor - 1) / divisor;
    }

    /** THE TAPE. */
    private static final class Tape {
        static final int MOST = 200;
        private static final int NO_BYTE = 0;

        private final byte[] bytes;
        int length;

        Tape() {
            bytes = new byte[MOST];
        }

        boolean append(long v) {
            if (length + 8 > MOST) {
                return false;
            }
            for (int shift = 56; shift >= 0; shift -= 8) {
                bytes[length] = (byte) (v >> shift);
                length++;
            }
            return true;
        }

        int byteAt(int i) {
            return i < 0 || i >= length ? NO_BYTE : bytes[i];
        }
    }

    /** What one text has told, with what holds where it told nothing. */
    private static final class Rules {
        /** The numbers stand in the order in which rule(what) asks for them. */
        static final int DROP = 0, OTHER = 1, JOIN = 2, MILES = 3, SONS = 4, NUMBERS = 8;
        static final int MOST_CHANGES = 12;
        static final int SONS_KINDS = 4;
        private static final int LETTERS = 27;
        private static final int UNTOLD = -1;
        private static final int[] AT_FIRST = {3, 4, 4, 5, 1, 1, 1, 1};

        final int[] numbers;
        private final int[] froms;
        final int[] fromLengths;
        final int[] intos;
        final int[] intoLengths;
        private final int[] likeCosts;
        int changes;
        int likes;

        Rules() {
            numbers = new int[NUMBERS];
            froms = new int[MOST_CHANGES];
            fromLengths = new int[MOST_CHANGES];
            intos = new int[MOST_CHANGES];
            intoLengths = new int[MOST_CHANGES];
            likeCosts = new int[LETTERS * LETTERS];
            forget();
        }

        void forget() {
            System.arraycopy(AT_FIRST, 0, numbers, 0, NUMBERS);
            Arrays.fill(likeCosts, UNTOLD);
            changes = 0;
            likes = 0;
        }

        boolean isChanged(int from) {
            for (int c = 0; c < changes; c++) {
                if (froms[c] == from) {
                    return true;
                }
            }
            return false;
        }

        void appendChange(int from, int fromLength, int into, int intoLength) {
            if (changes < MOST_CHANGES) {
                froms[changes] = from;
                fromLengths[changes] = fromLength;
                intos[changes] = into;
                intoLengths[changes] = intoLength;
                changes++;
            }
        }

        boolean isLike(int a, int b) {
            return likeCosts[a * LETTERS + b] != UNTOLD;
        }

        void appendLike(int a, int b, int cost) {
            likeCosts[a * LETTERS + b] = cost;
            likeCosts[b * LETTERS + a] = cost;
            likes++;
        }

        int swapCost(int a, int b) {
            if (a == b) {
                return 0;
            }
            return isLike(a, b) ? likeCosts[a * LETTERS + b] : numbers[OTHER];
        }

        /** The longest change that stands at the head of the last letters of a spelling. */
        int changeAt(long letters, int left) {
            int found = NONE;
            for (int c = 0; c < changes; c++) {
                boolean longer = found == NONE || fromLengths[c] > fromLengths[found];
                if (longer && fromLengths[c] <= left && standsAt(c, letters, left)) {
                    found = c;
                }
            }
            return found;
        }

        private boolean standsAt(int c, long letters, int left) {
            long mask = (1L << (5 * fromLengths[c])) - 1;
            return (letters >> (5 * (left - fromLengths[c])) & mask) == froms[c];
        }
    }

    /** Reads THE TAPE as a text of rules, up to its first fault. */
    private static final class TextReader {
        private static final int END = 0, NAME = 1, NUMBER = 2, STOP = 3, NO_TOKEN = 4;
        private static final int LEXICAL = 1, MISPLACED = 2, BOUNDS = 3, TWICE = 4, TOO_MANY = 5;
        private static final int MOST_FIGURES = 2, MOST_NUMBER = 20, MOST_SONS = 9;

        private final Tape tape;
        private Rules rules;
        private int toldNumbers;
        private int next;
        private int kind;
        private int start;
        private int length;
        private int value;
        int faultKind;
        int faultPlace;

        TextReader(Tape tape) {
            this.tape = tape;
        }

        /** How many lines were taken; what was read counts only if no fault was met. */
        int readInto(Rules target) {
            rules = target;
            rules.forget();
            toldNumbers = 0;
            next = 0;
            faultKind = 0;
            faultPlace = 0;
            int taken = 0;
            // A line takes bytes, so that there are fewer lines than bytes.
            for (int i = 0; i <= Tape.MOST; i++) {
                readToken();
                if (kind == END || !takeLine()) {
                    return taken;
                }
                taken++;
            }
            return taken;
        }

        private boolean takeLine() {
            if (kind == NO_TOKEN) {
                return refuse(LEXICAL);
            }
            if (isWord("say") || isWord("mute")) {
                return takeChange(isWord("say"));
            }
            if (isWord("like")) {
                return takeLike();
            }
            if (isWord("drop")) {
                return takeNumber(Rules.DROP, 0);
            }
            if (isWord("other")) {
                return takeNumber(Rules.OTHER, 0);
            }
            if (isWord("join")) {
                return takeNumber(Rules.JOIN, 0);
            }
            if (isWord("miles")) {
                return takeNumber(Rules.MILES, 1);
            }
            return isWord("sons") ? takeSons() : refuse(MISPLACED);
        }

        private boolean takeChange(boolean said) {
            if (rules.changes == Rules.MOST_CHANGES) {
                return refuse(TOO_MANY);
            }
            if (!takeName(3)) {
                return false;
            }
            if (rules.isChanged(value)) {
                return refuse(TWICE);
            }
            int from = value;
            int fromLength = length;
            if (said && !takeName(2)) {
                return false;
            }
            int into = said ? value : 0;
            int intoLength = said ? length : 0;
            if (!takeToken(STOP)) {
                return false;
            }
            rules.appendChange(from, fromLength, into, intoLength);
            return true;
        }

        private boolean takeLike() {
            if (!takeName(1)) {
                return false;
            }
            int one = value;
            if (!takeName(1)) {
                return false;
            }
            int two = value;
            if (one == two) {
                return refuse(BOUNDS);
            }
            if (rules.isLike(one, two)) {
                return refuse(TWICE);
            }
            if (!takeBetween(0, MOST_NUMBER)) {
                return false;
            }
            rules.appendLike(one, two, value);
            return takeToken(STOP);
        }

        private boolean takeNumber(int which, int least) {
            if (!tellOnce(which) || !takeBetween(least, MOST_NUMBER)) {
                return false;
            }
            rules.numbers[which] = value;
            return takeToken(STOP);
        }

        private boolean takeSons() {
            if (!tellOnce(Rules.SONS)) {
                return false;
            }
            int sum = 0;
            for (int i = 0; i < Rules.SONS_KINDS; i++) {
                if (!takeBetween(0, MOST_SONS)) {
                    return false;
                }
                sum += value;
                boolean last = i == Rules.SONS_KINDS - 1;
                if (sum > MOST_SONS || last && sum == 0) {
                    return refuse(BOUNDS);
                }
                rules.numbers[Rules.SONS + i] = value;
            }
            return takeToken(STOP);
        }

        private boolean tellOnce(int which) {
            if ((toldNumbers >> which & 1) == 1) {
                return refuse(TWICE);
            }
            toldNumbers |= 1 << which;
            return true;
        }

        private boolean takeName(int longest) {
            return takeToken(NAME) && (length <= longest || refuse(MISPLACED));
        }

        private boolean takeBetween(int least, int most) {
            return takeToken(NUMBER) && (value >= least && value <= most || refuse(BOUNDS));
        }

        private boolean takeToken(int wanted) {
            readToken();
            if (kind == NO_TOKEN) {
                return refuse(LEXICAL);
            }
            return kind == wanted || refuse(MISPLACED);
        }

        private boolean refuse(int fault) {
            faultKind = fault;
            faultPlace = start;
            return false;
        }

        private boolean isWord(String word) {
            if (kind != NAME || length != word.length()) {
                return false;
            }
            for (int i = 0; i < length; i++) {
                if (tape.byteAt(start + i) != word.charAt(i)) {
                    return false;
                }
            }
            return true;
        }

        private void readToken() {
            while (next < tape.length && tape.byteAt(next) == ' ') {
                next++;
            }
            start = next;
            value = 0;
            kind = next < tape.length ? kindOf(tape.byteAt(next)) : END;
            if (kind == STOP || kind == NO_TOKEN) {
                next++;
            }
            boolean grows = kind == NAME || kind == NUMBER;
            while (grows && next < tape.length && kindOf(tape.byteAt(next)) == kind) {
                int sign = tape.byteAt(next);
                value = kind == NAME ? value * 32 + sign - 'a' + 1 : value * 10 + sign - '0';
                next++;
            }
            length = next - start;
            if (kind == NUMBER && length > MOST_FIGURES) {
                kind = NO_TOKEN;
            }
        }

        private static int kindOf(int sign) {
            if (sign >= 'a' && sign <= 'z') {
                return NAME;
            }
            if (sign >= '0' && sign <= '9') {
                return NUMBER;
            }
            return sign == ';' ? STOP : NO_TOKEN;
        }
    }

    /** SPELLINGS, and what follows from them and the rules: always worked out, so asking is cheap. */
    private static final class Words {
        static final int MOST = 16;
        private static final int MOST_LETTERS = 10;
        private static final int MOST_SOUNDS = 2 * MOST_LETTERS;
        private static final long TWELVE_SOUNDS = (1L << 60) - 1;
        /** A chain's cost: its sum of apart in these, and one for each spelling behind the last. */
        private static final int STEP = 32;
        private static final int FAR = 1 << 20;

        final long[] letters;
        int size;
        /** Bits of the spellings that each one is joined to, itself too. */
        final int[] joined;
        final int[] names;
        final int[] soundCounts;
        private Rules rules;
        private final int[] soundRows;
        private final int[] aparts;
        private final int[] costs;
        private final int[] edits;

        Words(Rules rules) {
            this.rules = rules;
            letters = new long[MOST];
            soundRows = new int[MOST * MOST_SOUNDS];
            soundCounts = new int[MOST];
            aparts = new int[MOST * MOST];
            joined = new int[MOST];
            names = new int[MOST];
            costs = new int[MOST];
            edits = new int[MOST_SOUNDS + 1];
        }

        static boolean isWord(long letters) {
            if (letters <= 0 || letters >= 1L << (5 * MOST_LETTERS)) {
                return false;
            }
            long left = letters;
            for (int i = 0; i < MOST_LETTERS && left > 0; i++) {
                long letter = left & 31;
                if (letter < 1 || letter > 26) {
                    return false;
                }
                left >>= 5;
            }
            return true;
        }

        boolean has(int s) {
            return s >= 0 && s < size;
        }

        boolean holds(long word) {
            for (int s = 0; s < size; s++) {
                if (letters[s] == word) {
                    return true;
                }
            }
            return false;
        }

        int append(long word) {
            if (size >= MOST) {
                return FULL;
            }
            letters[size] = word;
            size++;
            settle(size - 1);
            nameAll();
            return size - 1;
        }

        void follow(Rules newer) {
            rules = newer;
            for (int s = 0; s < size; s++) {
                settle(s);
            }
            nameAll();
        }

        /** Those ahead of it are settled already, and have no bits yet for those behind. */
        private void settle(int s) {
            hear(s);
            joined[s] = 1 << s;
            for (int t = 0; t < s; t++) {
                int sum = measure(s, t);
                aparts[s * MOST + t] = sum;
                aparts[t * MOST + s] = sum;
                if (sum <= rules.numbers[Rules.JOIN]) {
                    joined[s] |= 1 << t;
                    joined[t] |= 1 << s;
                }
            }
        }

        long soundOf(int s) {
            long sound = 0;
            for (int i = 0; i < soundCounts[s]; i++) {
                sound = (sound << 5 | soundRows[s * MOST_SOUNDS + i]) & TWELVE_SOUNDS;
            }
            return sound;
        }

        int apartOf(int s, int t) {
            return aparts[s * MOST + t];
        }

        int howManyNames() {
            int many = 0;
            for (int s = 0; s < size; s++) {
                if (names[s] == s) {
                    many++;
                }
            }
            return many;
        }

        private void hear(int s) {
            int left = 0;
            for (long rest = letters[s]; rest > 0 && left < MOST_LETTERS; rest >>= 5) {
                left++;
            }
            soundCounts[s] = 0;
            for (int i = 0; i < MOST_LETTERS && left > 0; i++) {
                int change = rules.changeAt(letters[s], left);
                if (change == NONE) {
                    appendSounds(s, (int) (letters[s] >> (5 * (left - 1)) & 31), 1);
                    left--;
                } else {
                    appendSounds(s, rules.intos[change], rules.intoLengths[change]);
                    left -= rules.fromLengths[change];
                }
            }
        }

        private void appendSounds(int s, int sounds, int many) {
            for (int shift = 5 * (many - 1); shift >= 0; shift -= 5) {
                if (soundCounts[s] < MOST_SOUNDS) {
                    soundRows[s * MOST_SOUNDS + soundCounts[s]] = sounds >> shift & 31;
                    soundCounts[s]++;
                }
            }
        }

        private int measure(int s, int t) {
            int drop = rules.numbers[Rules.DROP];
            int wide = soundCounts[t];
            for (int j = 0; j <= wide; j++) {
                edits[j] = j * drop;
            }
            for (int i = 0; i < soundCounts[s]; i++) {
                int corner = edits[0];
                edits[0] += drop;
                int one = soundRows[s * MOST_SOUNDS + i];
                for (int j = 0; j < wide; j++) {
                    int swapped = corner + rules.swapCost(one, soundRows[t * MOST_SOUNDS + j]);
                    corner = edits[j + 1];
                    edits[j + 1] = Math.min(swapped, Math.min(corner, edits[j]) + drop);
                }
            }
            return edits[wide];
        }

        private void nameAll() {
            int named = 0;
            for (int s = 0; s < size; s++) {
                if ((named >> s & 1) == 0) {
                    int members = reachedFrom(s);
                    named |= members;
                    nameMembers(members, s);
                }
            }
        }

        private int reachedFrom(int s) {
            int reached = 1 << s;
            int before = 0;
            // A chain goes through each spelling once at most.
            for (int i = 0; i < size && reached != before; i++) {
                before = reached;
                for (int t = 0; t < size; t++) {
                    if ((reached >> t & 1) == 1) {
                        reached |= joined[t];
                    }
                }
            }
            return reached;
        }

        private void nameMembers(int members, int least) {
            for (int t = 0; t < size; t++) {
                if ((members >> t & 1) == 1) {
                    names[t] = least;
                }
            }
        }

        /** Costs of the best chains from each spelling to t: the way back needs no other search. */
        void walkTo(int t) {
            Arrays.fill(costs, FAR);
            costs[t] = 0;
            boolean changed = true;
            for (int round = 0; round < MOST && changed; round++) {
                changed = false;
                for (int s = 0; s < size; s++) {
                    int cost = cheapestStep(s);
                    if (cost < costs[s]) {
                        costs[s] = cost;
                        changed = true;
                    }
                }
            }
        }

        private int cheapestStep(int s) {
            int cheapest = FAR;
            for (int t = 0; t < size; t++) {
                if (t != s && (joined[s] >> t & 1) == 1) {
                    cheapest = Math.min(cheapest, costOver(s, t));
                }
            }
            return cheapest;
        }

        private int costOver(int s, int t) {
            return costs[t] + aparts[s * MOST + t] * STEP + 1;
        }

        int chainLength(int s) {
            return costs[s] % STEP + 1;
        }

        int chainSum(int s) {
            return costs[s] / STEP;
        }

        /** A step that keeps the cost is on a best chain, so the least one is taken each time. */
        int chainMember(int s, int i) {
            if (i >= chainLength(s)) {
                return NONE;
            }
            int at = s;
            for (int step = 0; step < i; step++) {
                at = nextOnChain(at);
            }
            return at;
        }

        private int nextOnChain(int s) {
            for (int t = 0; t < size; t++) {
                if (t != s && (joined[s] >> t & 1) == 1 && costOver(s, t) == costs[s]) {
                    return t;
                }
            }
            return s;
        }
    }

    /** STANDING: the fewest rows whose bits cover all. */
    private static final class Covering {
        private Covering() {
        }

        static int fewest(int[] covers, int many) {
            if (many <= 0 || many > covers.length) {
                return 0;
            }
            int all = (1 << many) - 1;
            int enough = 1;
            while (enough < many && !suffices(covers, all, all, enough)) {
                enough++;
            }
            // The least sum leaves out the highest ones first, wherever the rest still suffices.
            int chosen = all;
            for (int s = many - 1; s >= 0; s--) {
                if (suffices(covers, chosen & ~(1 << s), all, enough)) {
                    chosen &= ~(1 << s);
                }
            }
            return chosen;
        }

        /** Whether some of those allowed, as many as left at most, cover what is open; left is the depth. */
        private static boolean suffices(int[] covers, int allowed, int open, int left) {
            if (open == 0 || left <= 0) {
                return open == 0;
            }
            // One of those that cover the lowest open one must be chosen.
            int choices = covers[Integer.numberOfTrailingZeros(open)] & allowed;
            for (int s = 0; s < covers.length; s++) {
                boolean choice = (choices >> s & 1) == 1;
                if (choice && suffices(covers, allowed, open & ~covers[s], left - 1)) {
                    return true;
                }
            }
            return false;
        }
    }

    /** PLACES and BOOKS. */
    private static final class Books {
        static final int MOST = 8, MOST_PLACES = 8, MOST_YEARS = 64;
        private static final int EARLIEST = 1500, LATEST = 1899;

        final int[] x;
        final int[] y;
        int places;
        final int[] place;
        final int[] from;
        final int[] to;
        /** A bit a year, as a book has 64 years at most. */
        final long[] holes;
        int size;

        Books() {
            x = new int[MOST_PLACES];
            y = new int[MOST_PLACES];
            place = new int[MOST];
            from = new int[MOST];
            to = new int[MOST];
            holes = new long[MOST];
        }

        static boolean areYears(int from, int to) {
            return from >= EARLIEST && from <= to && to <= LATEST;
        }

        boolean hasPlace(int p) {
            return p >= 0 && p < places;
        }

        boolean has(int b) {
            return b >= 0 && b < size;
        }

        int appendPlace(int px, int py) {
            if (places >= MOST_PLACES) {
                return FULL;
            }
            x[places] = px;
            y[places] = py;
            places++;
            return places - 1;
        }

        int append(int p, int first, int last) {
            if (size >= MOST) {
                return FULL;
            }
            place[size] = p;
            from[size] = first;
            to[size] = last;
            size++;
            return size - 1;
        }

        int howFar(int p, int q) {
            return Math.abs(x[p] - x[q]) + Math.abs(y[p] - y[q]);
        }

        int yearsOf(int b) {
            return to[b] - from[b] + 1;
        }

        boolean hasYear(int b, int year) {
            return year >= from[b] && year <= to[b];
        }

        boolean isHole(int b, int year) {
            return (holes[b] >> (year - from[b]) & 1) == 1;
        }

        void setHole(int b, int year, boolean is) {
            long bit = 1L << (year - from[b]);
            holes[b] = is ? holes[b] | bit : holes[b] & ~bit;
        }

        int latestReadable(int b) {
            for (int year = to[b]; year >= from[b]; year--) {
                if (!isHole(b, year)) {
                    return year;
                }
            }
            return NONE;
        }

        int readableYears(int p, int first, int last) {
            int readable = 0;
            for (int b = 0; b < size; b++) {
                if (place[b] == p) {
                    readable += readableYearsOf(b, first, last);
                }
            }
            return readable;
        }

        private int readableYearsOf(int b, int first, int last) {
            int readable = 0;
            int end = Math.min(last, to[b]);
            for (int year = Math.max(first, from[b]); year <= end; year++) {
                if (!isHole(b, year)) {
                    readable++;
                }
            }
            return readable;
        }
    }

    /** LINES, their readings and their fathers. */
    private static final class Lines {
        static final int MOST = 40, MOST_READINGS = 60;
        static final int READ = 0;
        private static final int COPIED = 3, DOUBTED = 4;
        private static final int FATHER_AHEAD = 15;
        /** In halves, by kind. */
        private static final int[] WORTH = {2, 1, 2, 0, 1};

        private final Words words;
        private final Books books;
        final int[] book;
        final int[] year;
        final int[] kind;
        final int[] came;
        final int[] latest;
        final int[] times;
        final int[] fathers;
        private final int[] earliest;
        int size;
        private final int[] readingLine;
        private final int[] readingDay;
        private final int[] readingWord;
        int readings;

        Lines(Words words, Books books) {
            this.words = words;
            this.books = books;
            book = new int[MOST];
            year = new int[MOST];
            kind = new int[MOST];
            came = new int[MOST];
            latest = new int[MOST];
            times = new int[MOST];
            fathers = new int[MOST];
            earliest = new int[MOST];
            readingLine = new int[MOST_READINGS];
            readingDay = new int[MOST_READINGS];
            readingWord = new int[MOST_READINGS];
        }

        static boolean isKind(int kind) {
            return kind >= READ && kind <= DOUBTED;
        }

        boolean has(int k) {
            return k >= 0 && k < size;
        }

        int append(int b, int y, int s, int kindOf, int day) {
            if (size >= MOST) {
                return FULL;
            }
            book[size] = b;
            year[size] = y;
            kind[size] = kindOf;
            came[size] = day;
            earliest[size] = s;
            latest[size] = s;
            times[size] = 1;
            fathers[size] = NONE;
            size++;
            return size - 1;
        }

        int reread(int k, int s, int day) {
            if (readings >= MOST_READINGS) {
                return FULL;
            }
            readingLine[readings] = k;
            readingDay[readings] = day;
            readingWord[readings] = s;
            readings++;
            latest[k] = s;
            times[k]++;
            return times[k];
        }

        /** Readings stand in the order of their days, so the last one that fits is the latest. */
        int knownOn(int k, int day) {
            if (came[k] > day) {
                return NONE;
            }
            int s = earliest[k];
            for (int r = 0; r < readings; r++) {
                if (readingLine[r] == k && readingDay[r] <= day) {
                    s = readingWord[r];
                }
            }
            return s;
        }

        boolean areIn(int b, int y) {
            for (int k = 0; k < size; k++) {
                if (book[k] == b && year[k] == y) {
                    return true;
                }
            }
            return false;
        }

        int howManyIn(int b) {
            int many = 0;
            for (int k = 0; k < size; k++) {
                if (book[k] == b) {
                    many++;
                }
            }
            return many;
        }

        int nameOfLine(int k) {
            return words.names[latest[k]];
        }

        int howManyNames() {
            int named = 0;
            for (int k = 0; k < size; k++) {
                named |= 1 << nameOfLine(k);
            }
            return Integer.bitCount(named);
        }

        private boolean isAt(int k, int name, int place) {
            return books.place[book[k]] == place && nameOfLine(k) == name;
        }

        int worth(int name, int place, int from, int to) {
            int sum = 0;
            for (int k = 0; k < size; k++) {
                if (year[k] >= from && year[k] <= to && isAt(k, name, place)) {
                    sum += WORTH[kind[k]];
                }
            }
            return sum;
        }

        int firstYear(int name, int place) {
            int found = NONE;
            for (int k = 0; k < size; k++) {
                boolean earlier = found == NONE || year[k] < found;
                if (earlier && kind[k] != COPIED && isAt(k, name, place)) {
                    found = year[k];
                }
            }
            return found;
        }

        boolean mayBeFather(int k, int f) {
            return year[f] <= year[k] - FATHER_AHEAD;
        }

        /** Steps from a line up its fathers; each is of an earlier year, so the way has an end. */
        private int stepsUp(int k, int ancestor) {
            int at = k;
            for (int steps = 0; steps < MOST && at != NONE; steps++) {
                if (at == ancestor) {
                    return steps;
                }
                at = fathers[at];
            }
            return NONE;
        }

        /** Where the two ways up meet first, both are shortest. */
        int stepsBetween(int k, int m) {
            int at = k;
            for (int steps = 0; steps < MOST && at != NONE; steps++) {
                int others = stepsUp(m, at);
                if (others != NONE) {
                    return steps + others;
                }
                at = fathers[at];
            }
            return NONE;
        }

        int descendants(int k) {
            int many = 0;
            for (int m = 0; m < size; m++) {
                if (m != k && stepsUp(m, k) != NONE) {
                    many++;
                }
            }
            return many;
        }

        int renamedDescendants(int k) {
            int many = 0;
            for (int m = 0; m < size; m++) {
                if (nameOfLine(m) != nameOfLine(k) && stepsUp(m, k) != NONE) {
                    many++;
                }
            }
            return many;
        }

        int longestDescent(int k) {
            int longest = 0;
            for (int m = 0; m < size; m++) {
                longest = Math.max(longest, stepsUp(m, k));
            }
            return longest;
        }
    }

    /** BEGAN and STARTS of one name: gather, then spread, then ask. */
    private static final class Origins {
        private final Lines lines;
        private final Books books;
        private final int[] firsts;
        private final int[] reach;
        int present;
        int fewest;
        int inAll;

        Origins(Lines lines, Books books) {
            this.lines = lines;
            this.books = books;
            firsts = new int[Books.MOST_PLACES];
            reach = new int[Books.MOST_PLACES];
        }

        void gather(int name) {
            present = 0;
            for (int p = 0; p < books.places; p++) {
                firsts[p] = lines.firstYear(name, p);
                if (firsts[p] != NONE) {
                    present |= 1 << p;
                }
            }
        }

        private boolean isPresent(int p) {
            return (present >> p & 1) == 1;
        }

        void spread(int miles) {
            for (int p = 0; p < books.places; p++) {
                reach[p] = isPresent(p) ? reachOf(p, miles) : 0;
            }
        }

        private int reachOf(int p, int miles) {
            int reached = 1 << p;
            for (int q = 0; q < books.places; q++) {
                int years = divideUp(books.howFar(p, q) * 10, miles);
                if (isPresent(q) && firsts[p] + years <= firsts[q]) {
                    reached |= 1 << q;
                }
            }
            return reached;
        }

        boolean letsAllCome(int set) {
            int reached = 0;
            for (int p = 0; p < books.places; p++) {
                if ((set >> p & 1) == 1) {
                    reached |= reach[p];
                }
            }
            return reached == present;
        }

        boolean hasSingleStart() {
            for (int p = 0; p < books.places; p++) {
                if (isPresent(p) && reach[p] == present) {
                    return true;
                }
            }
            return false;
        }

        /** Sets come by their sums, so the first of the fewest has the least one. */
        void search() {
            fewest = present;
            inAll = present;
            int least = Integer.bitCount(present) + 1;
            for (int set = 0; set <= present; set++) {
                int many = Integer.bitCount(set);
                if ((set & ~present) == 0 && many <= least && letsAllCome(set)) {
                    inAll = many < least ? set : inAll & set;
                    fewest = many < least ? set : fewest;
                    least = many;
                }
            }
        }
    }

    /** DIES: the fraction after some generations, kept in lowest terms. */
    private static final class Extinction {
        long numerator;
        long denominator;

        void follow(Rules rules, int generations) {
            numerator = 0;
            denominator = 1;
            for (int g = 0; g < generations; g++) {
                addGeneration(rules);
            }
        }

        private void addGeneration(Rules rules) {
            long all = 0;
            long sum = 0;
            // Each kind's term is its number times the chance to the power of its sons.
            for (int sons = 0; sons < Rules.SONS_KINDS; sons++) {
                int weight = rules.numbers[Rules.SONS + sons];
                all += weight;
                sum += weight * power(numerator, sons) * power(denominator, 3 - sons);
            }
            long whole = all * power(denominator, 3);
            long common = greatestDivisor(sum, whole);
            numerator = common > 0 ? sum / common : 0;
            denominator = common > 0 ? whole / common : 1;
        }

        private static long power(long base, int exponent) {
            long result = 1;
            for (int i = 0; i < exponent; i++) {
                result *= base;
            }
            return result;
        }

        /** A hundred rounds are more than the halving of any long needs. */
        private static long greatestDivisor(long a, long b) {
            long one = a;
            long two = b;
            for (int i = 0; i < 100 && two != 0; i++) {
                long rest = one % two;
                one = two;
                two = rest;
            }
            return one;
        }
    }

    /** A SHEET: its cells are kept as ints that were cut to its lane. */
    private static final class Sheet {
        static final int HOW_MANY = 4, MOST = 64;
        static final int NOTHING = -1;
        static final int SIZE = 4;
        private static final int NULL = 1, INDEX = 2, CAST = 3;
        private static final int BYTES = 0, SHORTS = 1, INTS = 2;

        private final int[] values;
        int lane;
        int cells;

        Sheet() {
            values = new int[MOST];
            cells = NONE;
        }

        static boolean isLane(int lane) {
            return lane >= BYTES && lane <= INTS;
        }

        void renew(int newLane, int newCells) {
            Arrays.fill(values, 0);
            lane = newLane;
            cells = newCells;
        }

        /** What the machine would find at a cell of a row taken as of a lane, or 0. */
        int faultAt(int asLane, int i) {
            if (cells == NONE) {
                return NULL;
            }
            if (asLane != lane) {
                return CAST;
            }
            return i < 0 || i >= cells ? INDEX : 0;
        }

        void put(int i, int v) {
            if (i >= 0 && i < cells) {
                values[i] = lane == BYTES ? (byte) v : lane == SHORTS ? (short) v : v;
            }
        }

        int cellAt(int i) {
            return i >= 0 && i < cells ? values[i] : NOTHING;
        }
    }
}
