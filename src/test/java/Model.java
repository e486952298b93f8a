import java.math.BigInteger;
import java.util.ArrayDeque;
import java.util.ArrayList;
import java.util.Arrays;
import java.util.Deque;
import java.util.List;
import java.util.regex.Matcher;
import java.util.regex.Pattern;

/**
 * The document told a second time, with texts and lists and no regard for cost, so that the class
 * can be compared with it. It shares no code and no way of counting with the class.
 */
final class Model {
    private static final int UNKNOWN = -1;
    private static final int BAD_VALUE = -2;
    private static final int FULL = -3;
    private static final int NOT_POSSIBLE = -4;
    private static final int NONE = -5;

    /** A state, copied whole whenever it is recorded. */
    private static final class State {
        /** Kinds as characters, "." without a knot. */
        String rope = ".".repeat(40);
        String tights = "0".repeat(40);
        List<String> words = new ArrayList<>();
        List<Integer> rings = new ArrayList<>();
        int[][] heard = new int[6][16];
        int[] right = new int[6];
        int[] wrong = new int[6];
        int setting = 2;
        int pulls = 0;
        int slips = 0;
        int ringings = 0;

        State copy() {
            State other = new State();
            other.rope = rope;
            other.tights = tights;
            other.words = new ArrayList<>(words);
            other.rings = new ArrayList<>(rings);
            for (int i = 0; i < 6; i++) {
                other.heard[i] = heard[i].clone();
            }
            other.right = right.clone();
            other.wrong = wrong.clone();
            other.setting = setting;
            other.pulls = pulls;
            other.slips = slips;
            other.ringings = ringings;
            return other;
        }
    }

    private State s = new State();
    private State kept = null;
    private final Deque<State> history = new ArrayDeque<>();
    private String text = "";

    private void act() {
        history.addLast(s.copy());
        if (history.size() > 4) {
            history.removeFirst();
        }
    }

    private static String with(String row, int at, char c) {
        return row.substring(0, at) + c + row.substring(at + 1);
    }

    private static int knots(String rope) {
        return rope.replace(".", "").length();
    }

    private static List<String> runsOf(String rope) {
        List<String> all = new ArrayList<>();
        for (String part : rope.split("\\.+")) {
            if (!part.isEmpty()) {
                all.add(part);
            }
        }
        return all;
    }

    private static List<Integer> firstsOf(String rope) {
        List<Integer> all = new ArrayList<>();
        Matcher m = Pattern.compile("[1-5]+").matcher(rope);
        while (m.find()) {
            all.add(m.start());
        }
        return all;
    }

    private List<Integer> wordsOn(String rope) {
        List<Integer> all = new ArrayList<>();
        for (String run : runsOf(rope)) {
            if (s.words.contains(run)) {
                all.add(s.words.indexOf(run));
            }
        }
        return all;
    }

    private int ringsOn(String rope) {
        return wordsOn(rope).stream().mapToInt(w -> s.rings.get(w)).sum();
    }

    int tie(int place, int kind, int tight) {
        if (place < 0 || place > 39) {
            return UNKNOWN;
        }
        if (kind < 1 || kind > 5 || tight < 1 || tight > 9) {
            return BAD_VALUE;
        }
        String rope = with(s.rope, place, (char) ('0' + kind));
        String tights = with(s.tights, place, (char) ('0' + tight));
        if (rope.equals(s.rope) && tights.equals(s.tights)) {
            return NONE;
        }
        act();
        s.rope = rope;
        s.tights = tights;
        return runsOf(s.rope).size();
    }

    int untie(int place) {
        if (place < 0 || place > 39) {
            return UNKNOWN;
        }
        char c = s.rope.charAt(place);
        if (c == '.') {
            return NONE;
        }
        act();
        s.rope = with(s.rope, place, '.');
        s.tights = with(s.tights, place, '0');
        return c - '0';
    }

    /** Rope, tightnesses and how many slip: a loose knot slips if there is room below its block. */
    private String[] pulled(int strength) {
        String rope = "";
        String tights = "";
        char carried = '.';
        char carriedTight = '0';
        int slips = 0;
        boolean free = false;
        // From below: what a place holds then is its own knot if it stays, else the one from above.
        char[] r = s.rope.toCharArray();
        char[] t = s.tights.toCharArray();
        boolean[] leaves = new boolean[40];
        for (int p = 39; p >= 0; p--) {
            boolean knot = r[p] != '.';
            leaves[p] = knot && free && t[p] - '0' < strength;
            free = !knot || leaves[p];
            slips += leaves[p] ? 1 : 0;
        }
        for (int p = 0; p < 40; p++) {
            boolean stays = r[p] != '.' && !leaves[p];
            rope += stays ? r[p] : carried;
            tights += stays ? t[p] : carriedTight;
            carried = leaves[p] ? r[p] : '.';
            carriedTight = leaves[p] ? t[p] : '0';
        }
        return new String[] {rope, tights, "" + slips};
    }

    int pull(int strength) {
        if (strength < 1 || strength > 9) {
            return BAD_VALUE;
        }
        String[] then = pulled(strength);
        int slips = Integer.parseInt(then[2]);
        if (slips == 0) {
            return NONE;
        }
        act();
        s.rope = then[0];
        s.tights = then[1];
        s.pulls++;
        s.slips += slips;
        return slips;
    }

    private int faultAt(boolean asRope) {
        if (text.isEmpty()) {
            return 0;
        }
        String allowed = asRope ? "(\\.|[1-5]!?){0,40}" : "[1-5]{0,5}";
        int good = 0;
        for (int end = 0; end <= text.length(); end++) {
            if (text.substring(0, end).matches(allowed)) {
                good = end;
            }
        }
        return good == text.length() ? NONE : good;
    }

    int layRope() {
        int fault = faultAt(true);
        if (fault != NONE) {
            return -100 - fault;
        }
        act();
        String rope = "";
        String tights = "";
        Matcher m = Pattern.compile("(\\.|[1-5])(!?)").matcher(text);
        while (m.find()) {
            rope += m.group(1);
            tights += m.group(1).equals(".") ? "0" : m.group(2).isEmpty() ? "5" : "9";
        }
        s.rope = rope + ".".repeat(40 - rope.length());
        s.tights = tights + "0".repeat(40 - tights.length());
        return knots(s.rope);
    }

    int teach(int rings) {
        if (rings < 1 || rings > 9) {
            return BAD_VALUE;
        }
        int fault = faultAt(false);
        if (fault != NONE) {
            return -100 - fault;
        }
        if (s.words.contains(text)) {
            return NOT_POSSIBLE;
        }
        if (s.words.size() == 16) {
            return FULL;
        }
        act();
        s.words.add(text);
        s.rings.add(rings);
        return s.words.size() - 1;
    }

    private boolean noWord(int word) {
        return word < 0 || word >= s.words.size();
    }

    private static boolean noLearner(int learner) {
        return learner < 0 || learner > 5;
    }

    int setRings(int word, int rings) {
        if (noWord(word)) {
            return UNKNOWN;
        }
        if (rings < 1 || rings > 9) {
            return BAD_VALUE;
        }
        if (s.rings.get(word) == rings) {
            return NONE;
        }
        act();
        return s.rings.set(word, rings);
    }

    private int answer(int learner) {
        int sum = 0;
        for (int w : wordsOn(s.rope)) {
            sum += s.heard[learner][w] >= s.setting ? s.rings.get(w) : 0;
        }
        return sum;
    }

    int ring() {
        if (wordsOn(s.rope).isEmpty()) {
            return NONE;
        }
        act();
        return ringOnce();
    }

    private int ringOnce() {
        int rightOnes = 0;
        for (int l = 0; l < 6; l++) {
            if (answer(l) == ringsOn(s.rope)) {
                s.right[l]++;
                rightOnes++;
            } else {
                s.wrong[l]++;
            }
        }
        for (int w : wordsOn(s.rope)) {
            for (int l = 0; l < 6; l++) {
                s.heard[l][w]++;
            }
        }
        s.ringings++;
        return rightOnes;
    }

    int forget(int learner, int word) {
        if (noLearner(learner) || noWord(word)) {
            return UNKNOWN;
        }
        int times = s.heard[learner][word];
        if (times == 0) {
            return NONE;
        }
        act();
        s.heard[learner][word] = 0;
        return times;
    }

    int tell(int learner, int word) {
        if (noLearner(learner) || noWord(word)) {
            return UNKNOWN;
        }
        if (s.heard[learner][word] + 1 > 999) {
            return FULL;
        }
        act();
        return ++s.heard[learner][word];
    }

    int set(int value) {
        if (value < 1 || value > 9) {
            return BAD_VALUE;
        }
        int before = s.setting;
        if (before == value) {
            return NONE;
        }
        act();
        s.setting = value;
        return before;
    }

    int type(char character) {
        if (text.length() == 50) {
            return FULL;
        }
        text += character;
        return text.length();
    }

    int clearText() {
        int length = text.length();
        text = "";
        return length;
    }

    int fault(boolean asRope, int what) {
        if (what != 0 && what != 1) {
            return BAD_VALUE;
        }
        int at = faultAt(asRope);
        if (at == NONE || what == 0) {
            return at;
        }
        if (at == text.length()) {
            return 1;
        }
        String c = text.substring(at, at + 1);
        if ("06789".contains(c)) {
            return 2;
        }
        String places = text.substring(0, at).replace("!", "");
        if (asRope && places.length() == 40 && ".12345".contains(c)) {
            return 3;
        }
        return !asRope && places.length() == 5 && "12345".contains(c) ? 3 : 4;
    }

    int undo() {
        if (history.isEmpty()) {
            return NONE;
        }
        s = history.removeLast();
        return history.size();
    }

    int keep() {
        kept = s.copy();
        return knots(s.rope);
    }

    int restore() {
        if (kept == null) {
            return NONE;
        }
        act();
        s = kept.copy();
        return knots(s.rope);
    }

    int knot(int place, int what) {
        if (place < 0 || place > 39) {
            return UNKNOWN;
        }
        if (what < 0 || what > 2) {
            return BAD_VALUE;
        }
        char c = s.rope.charAt(place);
        if (what == 2) {
            return c == '.' ? NONE : runsOf(s.rope.substring(0, place + 1)).size() - 1;
        }
        return what == 1 ? s.tights.charAt(place) - '0' : c == '.' ? 0 : c - '0';
    }

    private boolean noRun(int run) {
        return run < 0 || run >= runsOf(s.rope).size();
    }

    int run(int run, int what) {
        if (noRun(run)) {
            return UNKNOWN;
        }
        String pattern = runsOf(s.rope).get(run);
        int first = firstsOf(s.rope).get(run);
        switch (what) {
            case 0:
                return first;
            case 1:
                return pattern.length();
            case 2:
                return s.words.contains(pattern) ? s.words.indexOf(pattern) : NONE;
            case 3:
                return s.tights.substring(first, first + pattern.length()).chars().min().getAsInt() - '0';
            default:
                return BAD_VALUE;
        }
    }

    int splits(int run) {
        if (noRun(run)) {
            return UNKNOWN;
        }
        String pattern = runsOf(s.rope).get(run);
        BigInteger[] ways = new BigInteger[pattern.length() + 1];
        Arrays.fill(ways, BigInteger.ZERO);
        ways[0] = BigInteger.ONE;
        for (int at = 0; at < pattern.length(); at++) {
            for (String w : s.words) {
                if (pattern.startsWith(w, at)) {
                    ways[at + w.length()] = ways[at + w.length()].add(ways[at]);
                }
            }
        }
        return ways[pattern.length()].min(BigInteger.valueOf(9999)).intValue();
    }

    int splitsBack(int run) {
        return splits(run);
    }

    int nearest(int run, int what) {
        if (noRun(run)) {
            return UNKNOWN;
        }
        if (what != 0 && what != 1) {
            return BAD_VALUE;
        }
        String pattern = runsOf(s.rope).get(run) + "-".repeat(5);
        int length = pattern.length() - 5;
        for (int differ = 0; differ <= 45; differ++) {
            for (int w = 0; w < s.words.size(); w++) {
                String word = s.words.get(w) + "-".repeat(45);
                int unlike = 0;
                for (int i = 0; i < Math.max(length, s.words.get(w).length()); i++) {
                    unlike += pattern.charAt(i) != word.charAt(i) ? 1 : 0;
                }
                if (unlike == differ) {
                    return what == 0 ? w : differ;
                }
            }
        }
        return NONE;
    }

    int word(int word, int what) {
        if (noWord(word)) {
            return UNKNOWN;
        }
        if (what < 0 || what > 8) {
            return BAD_VALUE;
        }
        String pattern = s.words.get(word);
        switch (what) {
            case 0:
                return pattern.length();
            case 1:
                return s.rings.get(word);
            case 2:
                return (int) runsOf(s.rope).stream().filter(pattern::equals).count();
            case 3:
                int sum = 0;
                for (int l = 0, bit = 1; l < 6; l++, bit *= 2) {
                    sum += s.heard[l][word] >= s.setting ? bit : 0;
                }
                return sum;
            default:
                return what - 4 < pattern.length() ? pattern.charAt(what - 4) - '0' : 0;
        }
    }

    int learner(int learner, int what) {
        if (noLearner(learner)) {
            return UNKNOWN;
        }
        switch (what) {
            case 0:
                int sum = 0;
                for (int w = 0, bit = 1; w < 16; w++, bit *= 2) {
                    sum += s.heard[learner][w] >= s.setting ? bit : 0;
                }
                return sum;
            case 1:
                return answer(learner);
            case 2:
                return s.right[learner];
            case 3:
                return s.wrong[learner];
            default:
                return BAD_VALUE;
        }
    }

    int heard(int learner, int word) {
        return noLearner(learner) || noWord(word) ? UNKNOWN : s.heard[learner][word];
    }

    int reason(int learner) {
        if (noLearner(learner)) {
            return UNKNOWN;
        }
        if (wordsOn(s.rope).isEmpty()) {
            return NONE;
        }
        if (answer(learner) == ringsOn(s.rope)) {
            return 0;
        }
        int run = 0;
        while (true) {
            int w = s.words.indexOf(runsOf(s.rope).get(run));
            if (w >= 0 && s.heard[learner][w] < s.setting) {
                return 100 + run;
            }
            run++;
        }
    }

    int ifPulled(int strength, int what) {
        if (strength < 1 || strength > 9 || what < 0 || what > 3) {
            return BAD_VALUE;
        }
        String[] then = pulled(strength);
        switch (what) {
            case 0:
                return Integer.parseInt(then[2]);
            case 1:
                return runsOf(then[0]).size();
            case 2:
                return wordsOn(then[0]).size();
            default:
                return ringsOn(then[0]);
        }
    }

    int safePull() {
        int strongest = 0;
        for (int strength = 1; strength <= 9; strength++) {
            if (wordsOn(pulled(strength)[0]).equals(wordsOn(s.rope))) {
                strongest = strength;
            }
        }
        return strongest;
    }

    int allRightIn() {
        if (wordsOn(s.rope).isEmpty()) {
            return NONE;
        }
        State before = s.copy();
        int times = 0;
        while (ringOnce() < 6) {
            times++;
        }
        s = before;
        return times;
    }

    int count(int what) {
        int[] all = {
            knots(s.rope), runsOf(s.rope).size(), wordsOn(s.rope).size(), ringsOn(s.rope),
            s.words.size(), s.pulls, s.slips, s.ringings, Arrays.stream(s.right).sum(),
            Arrays.stream(s.wrong).sum(), s.setting, history.size(), text.length()
        };
        return what < 0 || what >= all.length ? BAD_VALUE : all[what];
    }
}
