import java.util.Arrays;

/** One call with its arguments, so that it can be asked of several objects. */
record Call(String name, long... args) {
    private int at(int i) {
        return (int) args[i];
    }

    long on(FamilyNames x) {
        switch (name) {
            case "spelling": return x.spelling(args[0]);
            case "letters": return x.letters(at(0));
            case "feed": return x.feed(args[0]);
            case "end": return x.end(at(0));
            case "rules": return x.rules();
            case "fault": return x.fault();
            case "rule": return x.rule(at(0));
            case "sound": return x.sound(at(0));
            case "sounds": return x.sounds(at(0));
            case "apart": return x.apart(at(0), at(1));
            case "name": return x.name(at(0));
            case "chain": return x.chain(at(0), at(1), at(2));
            case "standing": return x.standing(at(0));
            case "place": return x.place(at(0), at(1));
            case "book": return x.book(at(0), at(1), at(2));
            case "hole": return x.hole(at(0), at(1), at(2) != 0);
            case "bookOf": return x.bookOf(at(0), at(1));
            case "line": return x.line(at(0), at(1), at(2), at(3));
            case "day": return x.day(at(0));
            case "again": return x.again(at(0), at(1));
            case "lineOf": return x.lineOf(at(0), at(1));
            case "known": return x.known(at(0), at(1));
            case "bearers": return x.bearers(at(0), at(1), at(2), at(3), at(4));
            case "first": return x.first(at(0), at(1));
            case "starts": return x.starts(at(0), at(1));
            case "judge": return x.judge(at(0), at(1));
            case "pace": return x.pace(at(0));
            case "dies": return x.dies(at(0), at(1));
            case "father": return x.father(at(0), at(1));
            case "kin": return x.kin(at(0), at(1));
            case "related": return x.related(at(0), at(1));
            case "issue": return x.issue(at(0), at(1));
            case "sheet": return x.sheet(at(0), at(1), at(2));
            case "lay": return x.lay(at(0), at(1), at(2));
            case "read": return x.read(at(0), at(1), at(2));
            case "torn": return x.torn();
            case "count": return x.count(at(0));
            default: throw new IllegalArgumentException(name);
        }
    }

    /** Whether an answer of this call leaves a change behind: not if it only asks, not if it is refused. */
    boolean changes(long answer) {
        switch (name) {
            case "rules": return true;
            case "father": return answer >= FamilyNames.NONE;
            case "spelling": case "feed": case "end": case "place": case "book": case "hole": case "line":
            case "day": case "again": case "sheet": case "lay": case "read": return answer >= 0;
            default: return false;
        }
    }

    @Override
    public String toString() {
        return name + Arrays.toString(args);
    }
}
