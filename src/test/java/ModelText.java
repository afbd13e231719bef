import java.util.HashSet;
import java.util.Set;
import java.util.regex.Matcher;
import java.util.regex.Pattern;

/** A text of rules, read by patterns; a fault ends it with a throw. */
final class ModelText {
    private static final Pattern TOKEN = Pattern.compile(" *([a-z]+|[0-9]+|;|.|$)", Pattern.DOTALL);

    private final String text;
    private final Matcher matcher;
    private final Model.Told told = new Model.Told();
    private final Set<String> once = new HashSet<>();
    private String token;
    private int place;

    ModelText(String text) {
        this.text = text;
        matcher = TOKEN.matcher(text);
    }

    private void next() {
        if (!matcher.find()) {
            throw new IllegalStateException(text);
        }
        token = matcher.group(1);
        place = matcher.start(1);
        if (!token.matches("[a-z]+|[0-9]{1,2}|;|")) {
            throw new Model.Fault(1, place);
        }
    }

    private void must(boolean holds, int kind) {
        if (!holds) {
            throw new Model.Fault(kind, place);
        }
    }

    private String name(int longest) {
        next();
        must(token.matches("[a-z]{1," + longest + "}"), 2);
        return token;
    }

    private int number(int least, int most) {
        next();
        must(token.matches("[0-9]+"), 2);
        int n = Integer.parseInt(token);
        must(n >= least && n <= most, 3);
        return n;
    }

    Model.Told told() {
        for (next(); !token.isEmpty(); next()) {
            line(token);
            next();
            must(token.equals(";"), 2);
            told.lines++;
        }
        return told;
    }

    private void line(String head) {
        must(Set.of("say", "mute", "like", "drop", "other", "join", "miles", "sons").contains(head), 2);
        if (head.equals("say") || head.equals("mute")) {
            must(told.changes.size() < 12, 5);
            String from = name(3);
            must(!told.changes.containsKey(from), 4);
            told.changes.put(from, head.equals("say") ? name(2) : "");
        } else if (head.equals("like")) {
            String one = name(1);
            String two = name(1);
            must(!one.equals(two), 3);
            must(!told.likes.containsKey(one + two), 4);
            int cost = number(0, 20);
            told.likes.put(one + two, cost);
            told.likes.put(two + one, cost);
        } else {
            must(once.add(head), 4);
            if (head.equals("sons")) {
                sons();
            } else {
                told.numbers.put(head, number(head.equals("miles") ? 1 : 0, 20));
            }
        }
    }

    private void sons() {
        int sum = 0;
        for (int i = 0; i < 4; i++) {
            told.sons[i] = number(0, 9);
            sum += told.sons[i];
            must(sum <= 9, 3);
        }
        must(sum > 0, 3);
    }
}
