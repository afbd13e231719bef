import java.math.BigInteger;
import java.util.ArrayList;
import java.util.HashMap;
import java.util.List;
import java.util.Map;
import java.util.TreeMap;

/**
 * The document once more, in the slowest and plainest way, with the whole library: every set and
 * every chain is tried, and sheets are rows whose faults the machine itself finds.
 */
final class Model {
    static final int BAD = -1, STATE = -2, FULL = -3, NONE = -4;

    record Place(int x, int y) { }

    record Book(int place, int from, int to, TreeMap<Integer, Boolean> holes) { }

    record Reading(int day, int spelling) { }

    static final class Line {
        int book, year, kind, father = NONE;
        final List<Reading> readings = new ArrayList<>();

        int now() {
            return readings.get(readings.size() - 1).spelling();
        }
    }

    static final class Told {
        final Map<String, Integer> numbers = new HashMap<>(Map.of("drop", 3, "other", 4, "join", 4, "miles", 5));
        int[] sons = {1, 1, 1, 1};
        final Map<String, String> changes = new HashMap<>();
        final Map<String, Integer> likes = new HashMap<>();
        int lines;
    }

    static final class Fault extends RuntimeException {
        final int kind, place;

        Fault(int kind, int place) {
            this.kind = kind;
            this.place = place;
        }
    }

    private final List<String> words = new ArrayList<>();
    private final StringBuilder tape = new StringBuilder();
    private final List<Place> places = new ArrayList<>();
    private final List<Book> books = new ArrayList<>();
    private final List<Line> lines = new ArrayList<>();
    private final Object[] sheets = new Object[4];
    private Told told = new Told();
    private int textFault, sheetFault, today;

    // ---- spellings, rules

    private static String wordOf(long letters) {
        String word = "";
        for (long left = letters; left > 0; left /= 32) {
            int letter = (int) (left % 32);
            if (letter == 0 || letter > 26) {
                return null;
            }
            word = (char) ('a' + letter - 1) + word;
        }
        return word.isEmpty() || word.length() > 10 ? null : word;
    }

    int spelling(long letters) {
        String word = wordOf(letters);
        if (word == null || words.contains(word)) {
            return BAD;
        }
        if (words.size() == 16) {
            return FULL;
        }
        words.add(word);
        return words.size() - 1;
    }

    private boolean isWord(int s) {
        return s >= 0 && s < words.size();
    }

    long letters(int s) {
        return isWord(s) ? Due.word(words.get(s)) : BAD;
    }

    int feed(long v) {
        if (tape.length() + 8 > 200) {
            return FULL;
        }
        for (int i = 7; i >= 0; i--) {
            tape.append((char) (v >>> 8 * i & 255));
        }
        return tape.length();
    }

    int end(int n) {
        if (n < 0 || n > tape.length()) {
            return BAD;
        }
        int had = tape.length();
        tape.setLength(n);
        return had;
    }

    int rules() {
        String text = tape.toString();
        tape.setLength(0);
        try {
            told = new ModelText(text).told();
            textFault = 0;
            return told.lines;
        } catch (Fault f) {
            textFault = f.kind;
            return -10 - f.place;
        }
    }

    int fault() {
        return textFault;
    }

    int rule(int what) {
        switch (what) {
            case 0: return told.numbers.get("drop");
            case 1: return told.numbers.get("other");
            case 2: return told.numbers.get("join");
            case 3: return told.numbers.get("miles");
            case 4: case 5: case 6: case 7: return told.sons[what - 4];
            case 8: return told.changes.size();
            case 9: return told.likes.size() / 2;
            default: return BAD;
        }
    }

    private String heard(int s) {
        String left = words.get(s);
        String sound = "";
        while (!left.isEmpty()) {
            String found = null;
            for (String from : told.changes.keySet()) {
                if (left.startsWith(from) && (found == null || from.length() > found.length())) {
                    found = from;
                }
            }
            sound += found == null ? left.substring(0, 1) : told.changes.get(found);
            left = left.substring(found == null ? 1 : found.length());
        }
        return sound;
    }

    long sound(int s) {
        if (!isWord(s)) {
            return BAD;
        }
        String sound = heard(s);
        return Due.word(sound.substring(Math.max(0, sound.length() - 12)));
    }

    int sounds(int s) {
        return isWord(s) ? heard(s).length() : BAD;
    }

    private int distance(String a, String b) {
        int[][] d = new int[a.length() + 1][b.length() + 1];
        int drop = told.numbers.get("drop");
        for (int i = 0; i <= a.length(); i++) {
            for (int j = 0; j <= b.length(); j++) {
                d[i][j] = i + j == 0 ? 0 : Integer.MAX_VALUE;
                if (i > 0) {
                    d[i][j] = Math.min(d[i][j], d[i - 1][j] + drop);
                }
                if (j > 0) {
                    d[i][j] = Math.min(d[i][j], d[i][j - 1] + drop);
                }
                if (i > 0 && j > 0) {
                    char p = a.charAt(i - 1), q = b.charAt(j - 1);
                    int swap = p == q ? 0 : told.likes.getOrDefault("" + p + q, told.numbers.get("other"));
                    d[i][j] = Math.min(d[i][j], d[i - 1][j - 1] + swap);
                }
            }
        }
        return d[a.length()][b.length()];
    }

    private int dist(int s, int t) {
        return distance(heard(s), heard(t));
    }

    private boolean joins(int s, int t) {
        return dist(s, t) <= told.numbers.get("join");
    }

    int apart(int s, int t) {
        return isWord(s) && isWord(t) ? dist(s, t) : BAD;
    }

    private int nameOf(int s) {
        int least = s;
        boolean[] seen = new boolean[words.size()];
        List<Integer> open = new ArrayList<>(List.of(s));
        seen[s] = true;
        while (!open.isEmpty()) {
            int at = open.remove(0);
            least = Math.min(least, at);
            for (int t = 0; t < words.size(); t++) {
                if (!seen[t] && joins(at, t)) {
                    seen[t] = true;
                    open.add(t);
                }
            }
        }
        return least;
    }

    int name(int s) {
        return isWord(s) ? nameOf(s) : BAD;
    }

    private List<Integer> bestChain;
    private int bestSum;

    private void tryChains(List<Integer> chain, int sum, int t) {
        int at = chain.get(chain.size() - 1);
        if (at == t) {
            if (bestChain == null || better(chain, sum)) {
                bestChain = new ArrayList<>(chain);
                bestSum = sum;
            }
            return;
        }
        for (int next = 0; next < words.size(); next++) {
            if (!chain.contains(next) && joins(at, next)) {
                chain.add(next);
                tryChains(chain, sum + dist(at, next), t);
                chain.remove(chain.size() - 1);
            }
        }
    }

    private boolean better(List<Integer> chain, int sum) {
        if (sum != bestSum || chain.size() != bestChain.size()) {
            return sum != bestSum ? sum < bestSum : chain.size() < bestChain.size();
        }
        for (int i = 0; i < chain.size(); i++) {
            if (!chain.get(i).equals(bestChain.get(i))) {
                return chain.get(i) < bestChain.get(i);
            }
        }
        return false;
    }

    int chain(int s, int t, int what) {
        if (!isWord(s) || !isWord(t) || what < 0 || what > 25 || what > 1 && what < 10) {
            return BAD;
        }
        bestChain = null;
        tryChains(new ArrayList<>(List.of(s)), 0, t);
        if (bestChain == null) {
            return NONE;
        }
        if (what < 2) {
            return what == 0 ? bestChain.size() : bestSum;
        }
        return what - 10 < bestChain.size() ? bestChain.get(what - 10) : NONE;
    }

    int standing(int what) {
        if (what < 0 || what > 2) {
            return BAD;
        }
        int n = words.size();
        if (what == 2) {
            return (int) java.util.stream.IntStream.range(0, n).map(this::nameOf).distinct().count();
        }
        int[] near = new int[n];
        for (int s = 0; s < n; s++) {
            for (int t = 0; t < n; t++) {
                near[s] |= joins(s, t) ? 1 << t : 0;
            }
        }
        int best = (1 << n) - 1;
        for (int set = 0; set < 1 << n; set++) {
            int covered = 0;
            for (int s = 0; s < n; s++) {
                covered |= (set >> s & 1) == 1 ? near[s] : 0;
            }
            if (covered == (1 << n) - 1 && Integer.bitCount(set) < Integer.bitCount(best)) {
                best = set;
            }
        }
        // Sets came from the least on, but the full set was there at first.
        return what == 0 ? Integer.bitCount(best) : best;
    }

    // ---- places, books, lines

    int place(int x, int y) {
        if (x < 0 || x > 99 || y < 0 || y > 99) {
            return BAD;
        }
        if (places.size() == 8) {
            return FULL;
        }
        places.add(new Place(x, y));
        return places.size() - 1;
    }

    private boolean isPlace(int p) {
        return p >= 0 && p < places.size();
    }

    private boolean isBook(int b) {
        return b >= 0 && b < books.size();
    }

    private boolean isLine(int k) {
        return k >= 0 && k < lines.size();
    }

    private static boolean isYear(int year) {
        return year >= 1500 && year <= 1899;
    }

    int book(int place, int from, int to) {
        if (!isPlace(place) || !isYear(from) || !isYear(to) || to < from || to - from + 1 > 64) {
            return BAD;
        }
        if (books.size() == 8) {
            return FULL;
        }
        TreeMap<Integer, Boolean> holes = new TreeMap<>();
        for (int year = from; year <= to; year++) {
            holes.put(year, false);
        }
        books.add(new Book(place, from, to, holes));
        return books.size() - 1;
    }

    private boolean hasLines(int b, int year) {
        return lines.stream().anyMatch(l -> l.book == b && l.year == year);
    }

    int hole(int b, int year, boolean is) {
        if (!isBook(b) || !books.get(b).holes().containsKey(year)) {
            return BAD;
        }
        if (hasLines(b, year)) {
            return STATE;
        }
        return books.get(b).holes().put(year, is) ? 1 : 0;
    }

    int bookOf(int b, int what) {
        if (!isBook(b) || what < 0 || what > 5) {
            return BAD;
        }
        Book book = books.get(b);
        if (what < 3) {
            return what == 0 ? book.place() : what == 1 ? book.from() : book.to();
        }
        if (what == 4) {
            return (int) lines.stream().filter(l -> l.book == b).count();
        }
        int holes = (int) book.holes().values().stream().filter(h -> h).count();
        int latest = book.holes().keySet().stream().filter(y -> !book.holes().get(y)).reduce(NONE, (p, q) -> q);
        return what == 3 ? holes : latest;
    }

    private int addLine(int b, int year, int s, int kind) {
        Line line = new Line();
        line.book = b;
        line.year = year;
        line.kind = kind;
        line.readings.add(new Reading(today, s));
        lines.add(line);
        return lines.size() - 1;
    }

    int line(int b, int year, int s, int kind) {
        if (!isBook(b) || !books.get(b).holes().containsKey(year) || !isWord(s) || kind < 0 || kind > 4) {
            return BAD;
        }
        if (books.get(b).holes().get(year)) {
            return STATE;
        }
        return lines.size() == 40 ? FULL : addLine(b, year, s, kind);
    }

    int day(int d) {
        if (d < 0 || d > 999 || d < today) {
            return BAD;
        }
        int was = today;
        today = d;
        return was;
    }

    private int readings() {
        return lines.stream().mapToInt(l -> l.readings.size() - 1).sum();
    }

    int again(int k, int s) {
        if (!isLine(k) || !isWord(s)) {
            return BAD;
        }
        if (lines.get(k).now() == s) {
            return STATE;
        }
        if (readings() == 60) {
            return FULL;
        }
        lines.get(k).readings.add(new Reading(today, s));
        return lines.get(k).readings.size();
    }

    int lineOf(int k, int what) {
        if (!isLine(k) || what < 0 || what > 7) {
            return BAD;
        }
        Line line = lines.get(k);
        int[] of = {line.book, line.year, line.now(), line.kind, nameOf(line.now()), line.father,
            line.readings.size(), line.readings.get(0).day()};
        return of[what];
    }

    int known(int k, int d) {
        if (!isLine(k) || d < 0 || d > 999) {
            return BAD;
        }
        int s = NONE;
        for (Reading r : lines.get(k).readings) {
            s = r.day() <= d ? r.spelling() : s;
        }
        return s;
    }

    // ---- bearers, where it began

    private boolean bears(Line line, int name, int place) {
        return books.get(line.book).place() == place && nameOf(line.now()) == name;
    }

    int bearers(int s, int place, int from, int to, int what) {
        if (!isWord(s) || !isPlace(place) || !isYear(from) || !isYear(to) || to < from || what < 0 || what > 2) {
            return BAD;
        }
        int worth = 0;
        int readable = 0;
        for (Line line : lines) {
            if (line.year >= from && line.year <= to && bears(line, nameOf(s), place)) {
                worth += "21201".charAt(line.kind) - '0';
            }
        }
        for (Book book : books) {
            for (int year = from; year <= to; year++) {
                readable += book.place() == place && !book.holes().getOrDefault(year, true) ? 1 : 0;
            }
        }
        if (what != 1) {
            return what == 0 ? worth / 2 : readable;
        }
        int years = Math.max(to - from + 1, readable);
        return readable == 0 ? NONE : (int) Math.ceil((double) worth * years / (2 * readable));
    }

    int first(int s, int place) {
        if (!isWord(s) || !isPlace(place)) {
            return BAD;
        }
        int name = nameOf(s);
        return lines.stream().filter(l -> l.kind != 3 && bears(l, name, place)).mapToInt(l -> l.year).min().orElse(NONE);
    }

    private boolean lets(int s, int p, int q, int miles) {
        Place a = places.get(p), b = places.get(q);
        int far = Math.abs(a.x() - b.x()) + Math.abs(a.y() - b.y());
        return first(s, p) + (int) Math.ceil(far * 10.0 / miles) <= first(s, q);
    }

    private int placesWithFirst(int s) {
        int bits = 0;
        for (int p = 0; p < places.size(); p++) {
            bits |= first(s, p) != NONE ? 1 << p : 0;
        }
        return bits;
    }

    private boolean does(int s, int set, int miles) {
        int with = placesWithFirst(s);
        for (int q = 0; q < places.size(); q++) {
            boolean comes = (with >> q & 1) == 0 || (set >> q & 1) == 1;
            for (int p = 0; p < places.size() && !comes; p++) {
                comes = (set >> p & 1) == 1 && lets(s, p, q, miles);
            }
            if (!comes) {
                return false;
            }
        }
        return true;
    }

    int starts(int s, int what) {
        if (!isWord(s) || what < 0 || what > 3) {
            return BAD;
        }
        int with = placesWithFirst(s);
        List<Integer> sets = new ArrayList<>();
        for (int set = 0; set < 256; set++) {
            if ((set | with) == with && does(s, set, told.numbers.get("miles"))) {
                sets.add(set);
            }
        }
        int fewest = sets.stream().mapToInt(Integer::bitCount).min().getAsInt();
        int least = sets.stream().filter(t -> Integer.bitCount(t) == fewest).findFirst().get();
        int all = sets.stream().filter(t -> Integer.bitCount(t) == fewest).reduce(255, (t, u) -> t & u);
        return new int[] {fewest, least, with, all}[what];
    }

    int judge(int s, int set) {
        if (!isWord(s) || set < 0 || set >= 1 << places.size()) {
            return BAD;
        }
        if ((set | placesWithFirst(s)) != placesWithFirst(s)) {
            return STATE;
        }
        return does(s, set, told.numbers.get("miles")) ? 1 : 0;
    }

    int pace(int s) {
        if (!isWord(s)) {
            return BAD;
        }
        for (int miles = 1; miles <= 20; miles++) {
            for (int p = 0; p < places.size(); p++) {
                if (first(s, p) != NONE && does(s, 1 << p, miles)) {
                    return miles;
                }
            }
        }
        return NONE;
    }

    long dies(int g, int what) {
        if (g < 1 || g > 3 || what < 0 || what > 1) {
            return BAD;
        }
        BigInteger top = BigInteger.ZERO, below = BigInteger.ONE;
        for (int i = 0; i < g; i++) {
            BigInteger sum = BigInteger.ZERO;
            int all = 0;
            for (int n = 0; n < 4; n++) {
                sum = sum.add(BigInteger.valueOf(told.sons[n]).multiply(top.pow(n)).multiply(below.pow(3 - n)));
                all += told.sons[n];
            }
            top = sum;
            below = below.pow(3).multiply(BigInteger.valueOf(all));
        }
        BigInteger common = top.gcd(below);
        return (what == 0 ? top : below).divide(common).longValueExact();
    }

    // ---- kin

    int father(int k, int f) {
        if (!isLine(k) || f != NONE && !isLine(f)) {
            return -5;
        }
        if (f != NONE && lines.get(k).year - lines.get(f).year < 15) {
            return -6;
        }
        int was = lines.get(k).father;
        lines.get(k).father = f;
        return was;
    }

    private List<Integer> wayUp(int k) {
        List<Integer> way = new ArrayList<>();
        for (int at = k; at != NONE; at = lines.get(at).father) {
            way.add(at);
        }
        return way;
    }

    int kin(int k, int m) {
        if (!isLine(k) || !isLine(m)) {
            return BAD;
        }
        int least = Integer.MAX_VALUE;
        List<Integer> one = wayUp(k), two = wayUp(m);
        for (int i = 0; i < one.size(); i++) {
            for (int j = 0; j < two.size(); j++) {
                least = one.get(i).equals(two.get(j)) ? Math.min(least, i + j) : least;
            }
        }
        return least == Integer.MAX_VALUE ? NONE : least;
    }

    int related(int k, int m) {
        if (!isLine(k) || !isLine(m)) {
            return BAD;
        }
        return (lineOf(k, 4) == lineOf(m, 4) ? 1 : 0) + (kin(k, m) == NONE ? 0 : 2);
    }

    int issue(int k, int what) {
        if (!isLine(k) || what < 0 || what > 2) {
            return BAD;
        }
        int[] of = new int[3];
        for (int m = 0; m < lines.size(); m++) {
            int steps = wayUp(m).indexOf(k);
            if (steps > 0) {
                of[0]++;
                of[1] += lineOf(m, 4) == lineOf(k, 4) ? 0 : 1;
                of[2] = Math.max(of[2], steps);
            }
        }
        return of[what];
    }

    // ---- sheets

    int sheet(int k, int lane, int n) {
        if (k < 0 || k > 3 || lane < 0 || lane > 2 || n > 64) {
            return BAD;
        }
        try {
            sheets[k] = lane == 0 ? new byte[n] : lane == 1 ? new short[n] : (Object) new int[n];
            return 1;
        } catch (NegativeArraySizeException e) {
            return -14;
        }
    }

    int lay(int k, int i, int v) {
        if (k < 0 || k > 3) {
            return BAD;
        }
        try {
            if (sheets[k] instanceof byte[] bytes) {
                bytes[i] = (byte) v;
            } else if (sheets[k] instanceof short[] shorts) {
                shorts[i] = (short) v;
            } else {
                ((int[]) sheets[k])[i] = v;
            }
            return 1;
        } catch (NullPointerException e) {
            return -11;
        } catch (ArrayIndexOutOfBoundsException e) {
            return -12;
        }
    }

    private int cell(int k, int lane, int i) {
        return lane == 0 ? ((byte[]) sheets[k])[i] : lane == 1 ? ((short[]) sheets[k])[i] : ((int[]) sheets[k])[i];
    }

    int read(int b, int k, int lane) {
        if (!isBook(b) || k < 0 || k > 3 || lane < 0 || lane > 2) {
            return BAD;
        }
        Book book = books.get(b);
        int fault = 0;
        int year = book.from();
        TreeMap<Integer, Integer> coming = new TreeMap<>();
        try {
            for (; year <= book.to(); year++) {
                if (book.holes().get(year)) {
                    continue;
                }
                int v = cell(k, lane, year - book.from());
                if (v != -1 && !isWord(v)) {
                    return -20 - (year - book.from());
                }
                if (v != -1) {
                    coming.put(year, v);
                }
            }
        } catch (NullPointerException e) {
            fault = 1;
        } catch (ArrayIndexOutOfBoundsException e) {
            fault = 2;
        } catch (ClassCastException e) {
            fault = 3;
        }
        if (lines.size() + coming.size() > 40) {
            return FULL;
        }
        coming.forEach((y, s) -> addLine(b, y, s, 0));
        for (int y = year; y <= book.to(); y++) {
            if (!hasLines(b, y)) {
                book.holes().put(y, true);
            }
        }
        sheetFault = fault;
        return coming.size();
    }

    int torn() {
        return sheetFault;
    }

    int count(int what) {
        switch (what) {
            case 0: return words.size();
            case 1: return places.size();
            case 2: return books.size();
            case 3: return lines.size();
            case 4: return readings();
            case 5: return today;
            case 6: return (int) lines.stream().map(l -> nameOf(l.now())).distinct().count();
            case 7: return tape.length();
            case 8: return sheets[0] == null ? NONE : java.lang.reflect.Array.getLength(sheets[0]);
            default: return BAD;
        }
    }
}
