import java.util.ArrayList;
import java.util.Arrays;
import java.util.List;
import java.util.Set;

/**
 * Calls on a new object with the answers that are due, told as a text, so that a test is a line:
 * "rope 1.2; pull 9 = 2; kinds .1.2". README.md tells how such a text is written.
 *
 * <p>Each call that tells or is refused is also looked at for what it must not do: the object
 * behind it must be as the one ahead of it, with its text, its history and its snapshot.
 */
final class Script {
    private static final int CALLS = 512;
    private static final int STATES = 4;
    /** The calls that tellState() makes whatever there is, and those that it makes for a word. */
    private static final int ASKED_ALWAYS = 110;
    private static final int ASKED_OF_WORD = 16;
    private static final String[] SIXTEEN = {
        "1", "2", "3", "4", "5", "11", "12", "13", "14", "15", "21", "22", "23", "24", "25", "31"
    };
    /** What is due of a call that prepares: anything but an error and NONE. */
    private static final int DONE = 1000000;
    private static final List<String> CODES =
        List.of("UNKNOWN", "BAD_VALUE", "FULL", "NOT_POSSIBLE", "NONE");
    private static final Set<String> TELLING = Set.of(
        "fault", "knot", "run", "splits", "splitsBack", "nearest", "word", "learner", "heard",
        "reason", "ifPulled", "safePull", "allRightIn", "count");

    /** One call; of an unwatched one only the answer counts. */
    private record Call(String name, int[] with, int due, boolean watched) {
        String told() {
            return name + Arrays.toString(with).replace('[', '(').replace(']', ')');
        }

        boolean fits(int answer) {
            return due == DONE ? answer >= 0 : answer == due;
        }

        boolean changesNothing() {
            return due < 0 || TELLING.contains(name);
        }

        int on(RopeKnots x) {
            switch (name) {
                case "layRope": return x.layRope();
                case "ring": return x.ring();
                case "clearText": return x.clearText();
                case "undo": return x.undo();
                case "keep": return x.keep();
                case "restore": return x.restore();
                case "safePull": return x.safePull();
                case "allRightIn": return x.allRightIn();
                case "tie": return x.tie(with[0], with[1], with[2]);
                default: return with.length == 1 ? ofOne(x, with[0]) : ofTwo(x, with[0], with[1]);
            }
        }

        private int ofOne(RopeKnots x, int a) {
            switch (name) {
                case "untie": return x.untie(a);
                case "pull": return x.pull(a);
                case "teach": return x.teach(a);
                case "set": return x.set(a);
                case "type": return x.type((char) a);
                case "splits": return x.splits(a);
                case "splitsBack": return x.splitsBack(a);
                case "reason": return x.reason(a);
                case "count": return x.count(a);
                default: throw new IllegalArgumentException("no call " + told());
            }
        }

        private int ofTwo(RopeKnots x, int a, int b) {
            switch (name) {
                case "setRings": return x.setRings(a, b);
                case "forget": return x.forget(a, b);
                case "tell": return x.tell(a, b);
                case "fault": return x.fault(a != 0, b);
                case "knot": return x.knot(a, b);
                case "run": return x.run(a, b);
                case "nearest": return x.nearest(a, b);
                case "word": return x.word(a, b);
                case "learner": return x.learner(a, b);
                case "heard": return x.heard(a, b);
                case "ifPulled": return x.ifPulled(a, b);
                default: throw new IllegalArgumentException("no call " + told());
            }
        }
    }

    private final List<Call> calls = new ArrayList<>();

    Script(String text) {
        for (String statement : text.split(";")) {
            for (String one : choices(statement.trim())) {
                read(one);
            }
        }
        if (calls.size() > CALLS) {
            throw new IllegalArgumentException("more than " + CALLS + " calls: " + text);
        }
    }

    // ---- reading

    /** A statement with "{a b}" is one with a, then one with b. */
    private static List<String> choices(String statement) {
        int open = statement.indexOf('{');
        int close = statement.indexOf('}', Math.max(0, open));
        if (open < 0) {
            return List.of(statement);
        }
        List<String> all = new ArrayList<>();
        for (String choice : statement.substring(open + 1, close).split(" ")) {
            all.addAll(choices(statement.substring(0, open) + choice + statement.substring(close + 1)));
        }
        return all;
    }

    private void read(String statement) {
        String[] sides = statement.split(" = ");
        String[] words = sides[0].split(" +");
        int due = sides.length == 2 ? number(sides[1].trim()) : DONE;
        int times = 1;
        if (words[0].equals("times")) {
            times = number(words[1]);
            words = Arrays.copyOfRange(words, 2, words.length);
        }
        for (int time = 0; time < times; time++) {
            readOnce(words, due);
        }
    }

    private void readOnce(String[] words, int due) {
        String first = words.length > 1 ? words[1] : "";
        switch (words[0]) {
            case "text":
                write(first);
                break;
            case "rope":
                write(first);
                calls.add(new Call("layRope", new int[0], due, true));
                break;
            case "taught":
                write(first);
                calls.add(new Call("teach", new int[] {number(words[2])}, due, true));
                break;
            case "sixteen":
                for (int word = 0; word < SIXTEEN.length; word++) {
                    write(SIXTEEN[word]);
                    calls.add(new Call("teach", new int[] {number(first)}, word, true));
                }
                break;
            case "kinds":
                row(0, text(first), '.');
                break;
            case "tights":
                row(1, text(first), '0');
                break;
            case "type":
                calls.add(new Call("type", new int[] {sign(first)}, due, true));
                break;
            default:
                calls.add(new Call(words[0], numbers(words), due, true));
        }
    }

    private void write(String told) {
        calls.add(new Call("clearText", new int[0], DONE, true));
        for (char c : text(told).toCharArray()) {
            calls.add(new Call("type", new int[] {c}, DONE, true));
        }
    }

    /** The kinds or the tightnesses of all places are due to be those. */
    private void row(int what, String dues, char rest) {
        for (int place = 0; place < 40; place++) {
            char c = place < dues.length() ? dues.charAt(place) : rest;
            calls.add(new Call("knot", new int[] {place, what}, c == '.' ? 0 : c - '0', false));
        }
    }

    /** Pieces with "+" between them, each perhaps with "*" and how often it stands. */
    private static String text(String told) {
        StringBuilder all = new StringBuilder();
        for (String piece : told.split("\\+")) {
            String[] parts = piece.split("\\*");
            all.append(parts.length == 2 ? parts[0].repeat(number(parts[1])) : piece);
        }
        return all.toString();
    }

    /** A character, told by itself or, behind "#", by its number. */
    private static int sign(String told) {
        return told.startsWith("#") ? number(told.substring(1)) : told.charAt(0);
    }

    private static int[] numbers(String[] words) {
        int[] all = new int[words.length - 1];
        for (int at = 0; at < all.length; at++) {
            all[at] = number(words[at + 1]);
        }
        return all;
    }

    private static int number(String told) {
        if (CODES.contains(told)) {
            return -1 - CODES.indexOf(told);
        }
        switch (told) {
            case "MIN": return Integer.MIN_VALUE;
            case "MAX": return Integer.MAX_VALUE;
            case "asRope": return 1;
            case "asPattern": return 0;
            default: return Integer.parseInt(told);
        }
    }

    // ---- running

    /** Compares each answer with the one that is due, under a title. */
    void run(Check check, String title) {
        RopeKnots x = new RopeKnots();
        for (int at = 0; at < calls.size(); at++) {
            Call call = calls.get(at);
            int answer = call.on(x);
            boolean fits = call.fits(answer);
            String due = call.due == DONE ? "no error" : "" + call.due;
            check.holds(title + ": call " + at + ", " + call.told() + " answered " + answer
                + ", due is " + due, fits);
            if (!fits) {
                return;
            }
            if (call.watched && call.changesNothing() && hasRoomToAsk(at)) {
                watch(check, title, at);
            }
        }
    }

    /** What an object answers behind its 512th call is free, so that far it can't be asked. */
    private boolean hasRoomToAsk(int at) {
        int words = 0;
        for (Call call : calls.subList(0, at + 1)) {
            words += call.name.equals("teach") ? 1 : 0;
        }
        return at + 1 + STATES + ASKED_ALWAYS + words * ASKED_OF_WORD <= CALLS;
    }

    private void watch(Check check, String title, int at) {
        boolean same = allBehind(at).equals(allBehind(at + 1));
        check.holds(title + ": call " + at + ", " + calls.get(at).told() + " changed something", same);
    }

    private RopeKnots behind(int count) {
        RopeKnots x = new RopeKnots();
        for (Call call : calls.subList(0, count)) {
            call.on(x);
        }
        return x;
    }

    /** All that is told behind the first calls, by objects of their own, for asking costs calls. */
    private List<Integer> allBehind(int count) {
        List<Integer> all = new ArrayList<>();
        tellState(behind(count), all);
        tellText(behind(count), all);
        for (int back = 1; back <= STATES; back++) {
            RopeKnots x = behind(count);
            int left = 0;
            for (int step = 0; step < back; step++) {
                left = x.undo();
            }
            all.add(left);
            tellState(x, all);
        }
        RopeKnots x = behind(count);
        all.add(x.restore());
        tellState(x, all);
        return all;
    }

    private static void tellState(RopeKnots x, List<Integer> all) {
        for (int place = 0; place < 40; place++) {
            all.add(x.knot(place, 0));
            all.add(x.knot(place, 1));
        }
        for (int what = 0; what <= 12; what++) {
            all.add(x.count(what));
        }
        for (int learner = 0; learner < 6; learner++) {
            all.add(x.learner(learner, 2));
            all.add(x.learner(learner, 3));
        }
        for (int word = 0; word < x.count(4); word++) {
            for (int learner = 0; learner < 6; learner++) {
                all.add(x.heard(learner, word));
            }
            for (int what = 0; what <= 8; what++) {
                all.add(x.word(word, what));
            }
        }
    }

    private static void tellText(RopeKnots x, List<Integer> all) {
        for (int what = 0; what <= 1; what++) {
            all.add(x.fault(true, what));
            all.add(x.fault(false, what));
        }
        all.add(x.teach(1));
        all.add(x.layRope());
        for (int place = 0; place < 40; place++) {
            all.add(x.knot(place, 0));
            all.add(x.knot(place, 1));
        }
    }
}
