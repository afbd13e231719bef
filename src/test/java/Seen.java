import java.util.ArrayList;
import java.util.List;

/** All that can be seen of an object, first by asking alone, then by calls that use it up. */
final class Seen {
    private static final int[] DAYS = {0, 1, 2, 3, 4, 5, 6, 7, 8, 9, 998, 999};

    private final FamilyNames x;
    private final List<String> answers = new ArrayList<>();

    private Seen(FamilyNames x) {
        this.x = x;
    }

    /** By asking alone. */
    static List<String> of(FamilyNames x) {
        Seen seen = new Seen(x);
        seen.askAll();
        return seen.answers;
    }

    /** The tape's bytes and the sheets' cells are seen only by what becomes of them. */
    static List<String> toTheEnd(FamilyNames x) {
        Seen seen = new Seen(x);
        seen.askAll();
        seen.read();
        seen.ask("rules");
        seen.askAll();
        return seen.answers;
    }

    private void ask(String name, long... args) {
        Call call = new Call(name, args);
        answers.add(call + " = " + call.on(x));
    }

    private void askAll() {
        ask("fault");
        ask("torn");
        for (int what = 0; what < 10; what++) {
            ask("rule", what);
            ask("count", what);
        }
        for (int what = 0; what < 3; what++) {
            ask("standing", what);
        }
        for (int g = 1; g < 4; g++) {
            ask("dies", g, 0);
            ask("dies", g, 1);
        }
        for (int s = 0; s < x.count(0); s++) {
            askSpelling(s);
        }
        for (int b = 0; b < x.count(2); b++) {
            for (int what = 0; what < 6; what++) {
                ask("bookOf", b, what);
            }
        }
        for (int k = 0; k < x.count(3); k++) {
            askLine(k);
        }
        for (int p = 0; x.count(0) > 0 && p < x.count(1); p++) {
            for (int year = 1500; year < 1900; year++) {
                ask("bearers", 0, p, year, year, 2);
            }
        }
    }

    private void askSpelling(int s) {
        ask("letters", s);
        ask("sound", s);
        ask("sounds", s);
        ask("name", s);
        ask("pace", s);
        ask("judge", s, 1);
        for (int what = 0; what < 4; what++) {
            ask("starts", s, what);
        }
        for (int t = 0; t < x.count(0); t++) {
            ask("apart", s, t);
            ask("chain", s, t, 0);
            ask("chain", s, t, 1);
            ask("chain", s, t, 11);
        }
        for (int p = 0; p < x.count(1); p++) {
            ask("first", s, p);
            ask("bearers", s, p, 1600, 1700, 0);
            ask("bearers", s, p, 1600, 1700, 1);
        }
    }

    private void askLine(int k) {
        for (int what = 0; what < 8; what++) {
            ask("lineOf", k, what);
        }
        for (int d : DAYS) {
            ask("known", k, d);
        }
        for (int what = 0; what < 3; what++) {
            ask("issue", k, what);
        }
        for (int m = 0; m < x.count(3); m++) {
            ask("kin", k, m);
            ask("related", k, m);
        }
    }

    private void read() {
        for (int k = 0; k < 4; k++) {
            for (int lane = 0; lane < 3; lane++) {
                // Each time into years that can be read, as far as they have no lines.
                for (int year = 1500; year < 1900; year++) {
                    x.hole(0, year, false);
                }
                ask("read", 0, k, lane);
                ask("torn");
                ask("bookOf", 0, 3);
                ask("lineOf", x.count(3) - 1, 2);
            }
        }
    }
}
