import java.util.ArrayList;
import java.util.List;
import java.util.Set;
import java.util.StringJoiner;
import java.util.regex.Matcher;
import java.util.regex.Pattern;

/** A call of the face, written as in 'link(1, 0, 2) = 1', with the answer that is due. */
final class Call {
    private static final Pattern WRITTEN = Pattern.compile("(\\w+)\\(([^)]*)\\)\\s*=\\s*(-?\\w+)");
    private static final Set<String> MOMENTS = Set.of("link", "change", "repair", "delete", "move");

    final String name;
    final int[] args;
    final int due;

    Call(int due, String name, int... args) {
        this.name = name;
        this.args = args;
        this.due = due;
    }

    /** Calls parted by lines or by semicolons. */
    static List<Call> read(String text) {
        List<Call> calls = new ArrayList<>();
        for (String part : text.split("[;\n]")) {
            if (!part.isBlank()) {
                calls.add(readOne(part.strip()));
            }
        }
        return calls;
    }

    private static Call readOne(String part) {
        Matcher m = WRITTEN.matcher(part);
        if (!m.matches()) {
            throw new IllegalArgumentException("no call: " + part);
        }
        String inside = m.group(2).strip();
        String[] words = inside.isEmpty() ? new String[0] : inside.split("\\s*,\\s*");
        int[] args = new int[words.length];
        for (int k = 0; k < words.length; k++) {
            args[k] = number(words[k]);
        }
        return new Call(number(m.group(3)), m.group(1), args);
    }

    private static int number(String word) {
        switch (word) {
            case "MIN":
                return Integer.MIN_VALUE;
            case "MAX":
                return Integer.MAX_VALUE;
            case "NONE":
                return -1;
            default:
                return Integer.parseInt(word);
        }
    }

    int on(LinkKeeper x) {
        switch (name) {
            case "record":
                return x.record();
            case "link":
                return x.link(args[0], args[1], args[2]);
            case "change":
                return x.change(args[0], args[1]);
            case "broken":
                return x.broken(args[0], args[1]);
            case "repair":
                return x.repair(args[0]);
            case "chain":
                return x.chain(args[0], args[1]);
            case "ring":
                return x.ring(args[0]);
            case "host":
                return x.host(args[0]);
            case "move":
                return x.move(args[0], args[1]);
            case "delete":
                return x.delete(args[0]);
            case "times":
                return x.times(args[0], args[1]);
            case "orphan":
                return x.orphan(args[0]);
            case "house":
                return x.house(args[0]);
            case "goes":
                return x.goes(args[0], args[1], args[2]);
            default:
                throw new IllegalArgumentException("no such call: " + name);
        }
    }

    boolean isMoment() {
        return MOMENTS.contains(name);
    }

    @Override
    public String toString() {
        StringJoiner list = new StringJoiner(", ", name + "(", ")");
        for (int arg : args) {
            list.add(arg == Integer.MIN_VALUE ? "MIN" : arg == Integer.MAX_VALUE ? "MAX" : "" + arg);
        }
        return list.toString();
    }
}
