/**
 * A bell rope whose knots are words, and learners who answer them with rings.
 *
 * <p>Every row is made once, in a constructor, and used again: a call makes no object.
 */
public final class RopeKnots {
    public static final int UNKNOWN = -1;
    public static final int BAD_VALUE = -2;
    public static final int FULL = -3;
    public static final int NOT_POSSIBLE = -4;
    public static final int NONE = -5;

    private static final int PLACES = 40;
    private static final int KINDS = 5;
    private static final int MOST_TIGHT = 9;
    private static final int PLAIN_TIGHT = 5;
    private static final int MOST_STRENGTH = 9;
    private static final int MOST_RUNS = 20;
    private static final int MOST_WORDS = 16;
    private static final int LONGEST_WORD = 5;
    private static final int MOST_RINGS = 9;
    private static final int LEARNERS = 6;
    private static final int MOST_SETTING = 9;
    private static final int FIRST_SETTING = 2;
    private static final int MOST_TOLD = 999;
    private static final int MOST_WAYS = 9999;
    private static final int TEXT_ROOM = 50;
    private static final int MOST_STATES = 4;
    private static final int FIRST_FAULT = -100;
    private static final int FIRST_REASON = 100;

    private static final int ENDS_EARLY = 1;
    private static final int NO_KIND = 2;
    private static final int TOO_LONG = 3;
    private static final int NOT_ALLOWED = 4;

    private final State now;
    private final State kept;
    private boolean hasKept;
    private final History history;
    private final Text text;
    /** The runs of the rope as it is, read anew by each call that tells of them. */
    private final Runs runs;
    /** A rope to try pulls and patterns on, and its runs; no part of the state. */
    private final Rope trial;
    private final Runs trialRuns;
    /** The ways to split what is before or behind each place of a run. */
    private final int[] ways;

    /** Creates a rope without knots, and learners who know no word. */
    public RopeKnots() {
        now = new State();
        kept = new State();
        hasKept = false;
        history = new History();
        text = new Text();
        runs = new Runs();
        trial = new Rope();
        trialRuns = new Runs();
        ways = new int[PLACES + 1];
    }

    // ---- the rope

    /** Ties a knot, in place of one that is there; tells how many runs there are then. */
    public int tie(int place, int kind, int tight) {
        if (!isWithin(place, 0, PLACES - 1)) {
            return UNKNOWN;
        }
        if (!isWithin(kind, 1, KINDS) || !isWithin(tight, 1, MOST_TIGHT)) {
            return BAD_VALUE;
        }
        if (now.rope.kindAt(place) == kind && now.rope.tightAt(place) == tight) {
            return NONE;
        }
        history.remember(now);
        now.rope.put(place, kind, tight);
        return readRuns().size;
    }

    /** Unties a knot; tells its kind. */
    public int untie(int place) {
        if (!isWithin(place, 0, PLACES - 1)) {
            return UNKNOWN;
        }
        int kind = now.rope.kindAt(place);
        if (kind == 0) {
            return NONE;
        }
        history.remember(now);
        now.rope.put(place, 0, 0);
        return kind;
    }

    /** Pulls the rope; tells how many knots slip. */
    public int pull(int strength) {
        if (!isWithin(strength, 1, MOST_STRENGTH)) {
            return BAD_VALUE;
        }
        int slips = tryPull(strength);
        if (slips == 0) {
            return NONE;
        }
        history.remember(now);
        now.rope.copyFrom(trial);
        now.pulls++;
        now.slips += slips;
        return slips;
    }

    /** Lays the rope of the text in place of all knots; tells how many knots there are then. */
    public int layRope() {
        int fault = text.faultIndex(true);
        if (fault != NONE) {
            return FIRST_FAULT - fault;
        }
        history.remember(now);
        text.layOn(now.rope);
        return now.rope.knotCount();
    }

    // ---- words, learners

    /** Teaches a word, whose pattern is the text; tells its number. */
    public int teach(int rings) {
        if (!isWithin(rings, 1, MOST_RINGS)) {
            return BAD_VALUE;
        }
        int fault = text.faultIndex(false);
        if (fault != NONE) {
            return FIRST_FAULT - fault;
        }
        // A pattern is also the text of a rope, so one search serves for both.
        text.layOn(trial);
        if (now.words.find(trial, 0, text.length) != NONE) {
            return NOT_POSSIBLE;
        }
        if (now.words.size >= MOST_WORDS) {
            return FULL;
        }
        history.remember(now);
        return now.words.add(trial, text.length, rings);
    }

    /** Changes the rings of a word; tells the previous ones. */
    public int setRings(int word, int rings) {
        if (!now.words.has(word)) {
            return UNKNOWN;
        }
        if (!isWithin(rings, 1, MOST_RINGS)) {
            return BAD_VALUE;
        }
        int previous = now.words.ringsOf(word);
        if (previous == rings) {
            return NONE;
        }
        history.remember(now);
        now.words.changeRings(word, rings);
        return previous;
    }

    /** Rings the rope; tells how many learners answer right. */
    public int ring() {
        readRuns();
        if (runs.wordRuns() == 0) {
            return NONE;
        }
        history.remember(now);
        now.ringings++;
        int due = rightAnswer(runs);
        int right = 0;
        for (int learner = 0; learner < LEARNERS; learner++) {
            boolean answersRight = answerOf(learner) == due;
            if (answersRight) {
                right++;
            }
            now.learners.account(learner, answersRight);
            hearRope(learner);
        }
        return right;
    }

    /** Lets a learner forget a word; tells how often he had heard it. */
    public int forget(int learner, int word) {
        if (!isLearner(learner) || !now.words.has(word)) {
            return UNKNOWN;
        }
        int times = now.learners.timesHeard(learner, word);
        if (times == 0) {
            return NONE;
        }
        history.remember(now);
        now.learners.hear(learner, word, -times);
        return times;
    }

    /** Tells a word to a learner alone; tells how often he has heard it then. */
    public int tell(int learner, int word) {
        if (!isLearner(learner) || !now.words.has(word)) {
            return UNKNOWN;
        }
        if (now.learners.timesHeard(learner, word) >= MOST_TOLD) {
            return FULL;
        }
        history.remember(now);
        now.learners.hear(learner, word, 1);
        return now.learners.timesHeard(learner, word);
    }

    /** Sets how often a word is heard until it is known; tells the previous setting. */
    public int set(int value) {
        if (!isWithin(value, 1, MOST_SETTING)) {
            return BAD_VALUE;
        }
        int previous = now.learners.setting;
        if (previous == value) {
            return NONE;
        }
        history.remember(now);
        now.learners.setting = value;
        return previous;
    }

    // ---- texts

    /** Types a character behind the text; tells the length of the text then. */
    public int type(char character) {
        if (text.length >= TEXT_ROOM) {
            return FULL;
        }
        text.append(character);
        return text.length;
    }

    /** Empties the text; tells the length that it had. */
    public int clearText() {
        int previous = text.length;
        text.clear();
        return previous;
    }

    /** Tells the index or the kind of the fault of the text, read as a rope or as a pattern. */
    public int fault(boolean asRope, int what) {
        if (!isWithin(what, 0, 1)) {
            return BAD_VALUE;
        }
        int index = text.faultIndex(asRope);
        if (index == NONE || what == 0) {
            return index;
        }
        return text.faultKind(asRope, index);
    }

    // ---- history

    /** Removes and restores the latest state of the history; tells how many are left. */
    public int undo() {
        if (history.size == 0) {
            return NONE;
        }
        history.takeBack(now);
        return history.size;
    }

    /** Takes a snapshot of the state; tells how many knots there are. */
    public int keep() {
        kept.copyFrom(now);
        hasKept = true;
        return now.rope.knotCount();
    }

    /** Restores the state of the snapshot; tells how many knots there are then. */
    public int restore() {
        if (!hasKept) {
            return NONE;
        }
        history.remember(now);
        now.copyFrom(kept);
        return now.rope.knotCount();
    }

    // ---- what is told

    /** Tells the kind of a knot, its tightness, or the run of which it is. */
    public int knot(int place, int what) {
        if (!isWithin(place, 0, PLACES - 1)) {
            return UNKNOWN;
        }
        switch (what) {
            case 0:
                return now.rope.kindAt(place);
            case 1:
                return now.rope.tightAt(place);
            case 2:
                return now.rope.runAt(place);
            default:
                return BAD_VALUE;
        }
    }

    /** Tells a run's first place, its length, the word that it is, or its looseness. */
    public int run(int run, int what) {
        if (!readRuns().has(run)) {
            return UNKNOWN;
        }
        switch (what) {
            case 0:
                return runs.firstOf(run);
            case 1:
                return runs.lengthOf(run);
            case 2:
                return runs.wordOf(run);
            case 3:
                return now.rope.loosenessFrom(runs.firstOf(run));
            default:
                return BAD_VALUE;
        }
    }

    /** Tells in how many ways a run splits into words, from its end forward. */
    public int splits(int run) {
        if (!readRuns().has(run)) {
            return UNKNOWN;
        }
        int first = runs.firstOf(run);
        int length = Math.min(PLACES, runs.lengthOf(run));
        ways[length] = 1;
        for (int from = length - 1; from >= 0; from--) {
            ways[from] = waysFrom(first, from, length);
        }
        return ways[0];
    }

    /** Tells the same from its beginning backward, by which words end at each place. */
    public int splitsBack(int run) {
        if (!readRuns().has(run)) {
            return UNKNOWN;
        }
        int first = runs.firstOf(run);
        int length = Math.min(PLACES, runs.lengthOf(run));
        ways[0] = 1;
        for (int upTo = 1; upTo <= length; upTo++) {
            ways[upTo] = waysUpTo(first, upTo);
        }
        return ways[length];
    }

    /** Tells the word nearest to a run, or how many knots differ from it. */
    public int nearest(int run, int what) {
        if (!readRuns().has(run)) {
            return UNKNOWN;
        }
        if (!isWithin(what, 0, 1)) {
            return BAD_VALUE;
        }
        int best = NONE;
        int fewest = NONE;
        for (int word = 0; word < now.words.size; word++) {
            int differ = now.words.differing(word, now.rope, runs.firstOf(run), runs.lengthOf(run));
            if (best == NONE || differ < fewest) {
                best = word;
                fewest = differ;
            }
        }
        return what == 0 ? best : fewest;
    }

    /** Tells of a word: its length, its rings, its runs, who knows it, its kinds. */
    public int word(int word, int what) {
        if (!now.words.has(word)) {
            return UNKNOWN;
        }
        switch (what) {
            case 0:
                return now.words.lengthOf(word);
            case 1:
                return now.words.ringsOf(word);
            case 2:
                return readRuns().countOf(word);
            case 3:
                return now.learners.whoKnow(word);
            default:
                return isWithin(what, 4, 8) ? now.words.kindAt(word, what - 4) : BAD_VALUE;
        }
    }

    /** Tells of a learner: the words that he knows, his answer now, his account. */
    public int learner(int learner, int what) {
        if (!isLearner(learner)) {
            return UNKNOWN;
        }
        switch (what) {
            case 0:
                return now.learners.knownBy(learner, now.words.size);
            case 1:
                readRuns();
                return answerOf(learner);
            case 2:
                return now.learners.rightOf(learner);
            case 3:
                return now.learners.wrongOf(learner);
            default:
                return BAD_VALUE;
        }
    }

    /** Tells how often a learner has heard a word. */
    public int heard(int learner, int word) {
        if (!isLearner(learner) || !now.words.has(word)) {
            return UNKNOWN;
        }
        return now.learners.timesHeard(learner, word);
    }

    /** Tells the first run that makes a learner's answer wrong now, and 100; 0 if none does. */
    public int reason(int learner) {
        if (!isLearner(learner)) {
            return UNKNOWN;
        }
        if (readRuns().wordRuns() == 0) {
            return NONE;
        }
        for (int run = 0; run < runs.size; run++) {
            int word = runs.wordOf(run);
            if (word != NONE && !now.learners.knows(learner, word)) {
                return FIRST_REASON + run;
            }
        }
        return 0;
    }

    /** Tells what a pull would leave: slips, runs, runs that are words, the right answer. */
    public int ifPulled(int strength, int what) {
        if (!isWithin(strength, 1, MOST_STRENGTH)) {
            return BAD_VALUE;
        }
        int slips = tryPull(strength);
        trialRuns.read(trial, now.words);
        switch (what) {
            case 0:
                return slips;
            case 1:
                return trialRuns.size;
            case 2:
                return trialRuns.wordRuns();
            case 3:
                return rightAnswer(trialRuns);
            default:
                return BAD_VALUE;
        }
    }

    /** Tells the strongest pull behind which the words are those of now, in the same order. */
    public int safePull() {
        readRuns();
        for (int strength = MOST_STRENGTH; strength > 1; strength--) {
            tryPull(strength);
            trialRuns.read(trial, now.words);
            if (trialRuns.sameWordsAs(runs)) {
                return strength;
            }
        }
        return 1;
    }

    /** Tells after how many rings of the rope as it is all learners would answer right. */
    public int allRightIn() {
        if (readRuns().wordRuns() == 0) {
            return NONE;
        }
        int most = 0;
        for (int word = 0; word < now.words.size; word++) {
            most = Math.max(most, ringsUntilAllKnow(word, runs.countOf(word)));
        }
        return most;
    }

    /** Tells a number of the whole. */
    public int count(int what) {
        switch (what) {
            case 0:
                return now.rope.knotCount();
            case 1:
                return readRuns().size;
            case 2:
                return readRuns().wordRuns();
            case 3:
                return rightAnswer(readRuns());
            case 4:
                return now.words.size;
            case 5:
                return now.pulls;
            case 6:
                return now.slips;
            case 7:
                return now.ringings;
            case 8:
                return now.learners.allRight();
            case 9:
                return now.learners.allWrong();
            case 10:
                return now.learners.setting;
            case 11:
                return history.size;
            case 12:
                return text.length;
            default:
                return BAD_VALUE;
        }
    }

    // ---- what the calls share

    private static boolean isWithin(int value, int least, int most) {
        return value >= least && value <= most;
    }

    private static boolean isLearner(int learner) {
        return isWithin(learner, 0, LEARNERS - 1);
    }

    private Runs readRuns() {
        runs.read(now.rope, now.words);
        return runs;
    }

    /** Leaves on the trial rope what a pull would leave; tells how many knots slip. */
    private int tryPull(int strength) {
        trial.copyFrom(now.rope);
        return trial.slip(strength);
    }

    private int rightAnswer(Runs read) {
        int sum = 0;
        for (int run = 0; run < read.size; run++) {
            sum += now.words.ringsOf(read.wordOf(run));
        }
        return sum;
    }

    /** The answer of a learner to the runs read last. */
    private int answerOf(int learner) {
        int sum = 0;
        for (int run = 0; run < runs.size; run++) {
            int word = runs.wordOf(run);
            if (now.learners.knows(learner, word)) {
                sum += now.words.ringsOf(word);
            }
        }
        return sum;
    }

    /** Lets a learner hear the words among the runs read last. */
    private void hearRope(int learner) {
        for (int run = 0; run < runs.size; run++) {
            now.learners.hear(learner, runs.wordOf(run), 1);
        }
    }

    /** 0 also for a word that is not on the rope, for no answer waits for it. */
    private int ringsUntilAllKnow(int word, int heardEachRing) {
        if (heardEachRing <= 0) {
            return 0;
        }
        int missing = now.learners.mostMissing(word);
        return (missing + heardEachRing - 1) / heardEachRing;
    }

    /** The ways to split a run from one of its knots to its end, by the words that begin there. */
    private int waysFrom(int first, int from, int length) {
        int sum = 0;
        for (int word = 0; word < now.words.size; word++) {
            int behind = from + now.words.lengthOf(word);
            if (isWithin(behind, from + 1, length) && now.words.standsAt(word, now.rope, first + from)) {
                sum = Math.min(MOST_WAYS, sum + ways[behind]);
            }
        }
        return sum;
    }

    /** The ways to split the first knots of a run, by the words that end there. */
    private int waysUpTo(int first, int upTo) {
        int sum = 0;
        for (int word = 0; word < now.words.size; word++) {
            int before = upTo - now.words.lengthOf(word);
            if (isWithin(before, 0, upTo - 1) && now.words.standsAt(word, now.rope, first + before)) {
                sum = Math.min(MOST_WAYS, sum + ways[before]);
            }
        }
        return sum;
    }

    /** The places of a rope; kind 0 is no knot. */
    private static final class Rope {
        private final int[] kinds;
        private final int[] tights;

        Rope() {
            kinds = new int[PLACES];
            tights = new int[PLACES];
        }

        void copyFrom(Rope other) {
            for (int place = 0; place < PLACES; place++) {
                kinds[place] = other.kinds[place];
                tights[place] = other.tights[place];
            }
        }

        /** 0 also off the rope, so that runs end there. */
        int kindAt(int place) {
            return isWithin(place, 0, PLACES - 1) ? kinds[place] : 0;
        }

        int tightAt(int place) {
            return isWithin(place, 0, PLACES - 1) ? tights[place] : 0;
        }

        void put(int place, int kind, int tight) {
            if (isWithin(place, 0, PLACES - 1)) {
                kinds[place] = kind;
                tights[place] = tight;
            }
        }

        void clear() {
            for (int place = 0; place < PLACES; place++) {
                put(place, 0, 0);
            }
        }

        int knotCount() {
            int knots = 0;
            for (int place = 0; place < PLACES; place++) {
                if (kindAt(place) != 0) {
                    knots++;
                }
            }
            return knots;
        }

        boolean startsRun(int place) {
            return kindAt(place) != 0 && kindAt(place - 1) == 0;
        }

        /** How many knots there are from a place on, one behind the other. */
        int lengthFrom(int first) {
            int length = 0;
            for (int place = first; place < PLACES && kindAt(place) != 0; place++) {
                length++;
            }
            return length;
        }

        /** The least tightness of the knots from a place on, one behind the other. */
        int loosenessFrom(int first) {
            int least = MOST_TIGHT;
            for (int place = first; place < PLACES && kindAt(place) != 0; place++) {
                least = Math.min(least, tightAt(place));
            }
            return least;
        }

        /** The number of the run of which the knot is; NONE without a knot. */
        int runAt(int knot) {
            if (kindAt(knot) == 0) {
                return NONE;
            }
            int run = -1;
            for (int place = 0; place < PLACES && place <= knot; place++) {
                if (startsRun(place)) {
                    run++;
                }
            }
            return run;
        }

        /** Lets the loose knots slip, the lowest first; tells how many. */
        int slip(int strength) {
            int slips = 0;
            for (int place = PLACES - 2; place >= 0; place--) {
                boolean loose = kindAt(place) != 0 && tightAt(place) < strength;
                if (loose && kindAt(place + 1) == 0) {
                    put(place + 1, kindAt(place), tightAt(place));
                    put(place, 0, 0);
                    slips++;
                }
            }
            return slips;
        }
    }

    /** The runs of a rope, from above, and the words that they are. */
    private static final class Runs {
        private int size;
        private final int[] firsts;
        private final int[] lengths;
        private final int[] found;

        Runs() {
            size = 0;
            firsts = new int[MOST_RUNS];
            lengths = new int[MOST_RUNS];
            found = new int[MOST_RUNS];
        }

        void read(Rope rope, Words words) {
            size = 0;
            for (int place = 0; place < PLACES && size < MOST_RUNS; place++) {
                if (rope.startsRun(place)) {
                    firsts[size] = place;
                    lengths[size] = rope.lengthFrom(place);
                    found[size] = words.find(rope, place, lengths[size]);
                    size++;
                }
            }
        }

        boolean has(int number) {
            return number >= 0 && number < size && number < MOST_RUNS;
        }

        int firstOf(int number) {
            return has(number) ? firsts[number] : 0;
        }

        int lengthOf(int number) {
            return has(number) ? lengths[number] : 0;
        }

        /** NONE if the run is no word. */
        int wordOf(int number) {
            return has(number) ? found[number] : NONE;
        }

        int wordRuns() {
            int sum = 0;
            for (int number = 0; number < size; number++) {
                if (wordOf(number) != NONE) {
                    sum++;
                }
            }
            return sum;
        }

        int countOf(int word) {
            int sum = 0;
            for (int number = 0; number < size; number++) {
                if (wordOf(number) == word) {
                    sum++;
                }
            }
            return sum;
        }

        /** Whether the runs that are words are the same words in the same order. */
        boolean sameWordsAs(Runs other) {
            int theirs = 0;
            for (int number = 0; number < size; number++) {
                if (wordOf(number) != NONE) {
                    theirs = other.nextWord(theirs);
                    if (wordOf(number) != other.wordOf(theirs)) {
                        return false;
                    }
                    theirs++;
                }
            }
            return wordRuns() == other.wordRuns();
        }

        /** The first run from a number on that is a word; behind all runs if none is. */
        private int nextWord(int from) {
            for (int number = from; number < size; number++) {
                if (wordOf(number) != NONE) {
                    return number;
                }
            }
            return size;
        }
    }

    /** The words that are taught; behind the end of a pattern its kinds are 0. */
    private static final class Words {
        private int size;
        private final int[] lengths;
        private final int[] rings;
        private final int[] kinds;

        Words() {
            size = 0;
            lengths = new int[MOST_WORDS];
            rings = new int[MOST_WORDS];
            kinds = new int[MOST_WORDS * LONGEST_WORD];
        }

        void copyFrom(Words other) {
            size = other.size;
            for (int number = 0; number < MOST_WORDS; number++) {
                lengths[number] = other.lengths[number];
                rings[number] = other.rings[number];
            }
            for (int index = 0; index < MOST_WORDS * LONGEST_WORD; index++) {
                kinds[index] = other.kinds[index];
            }
        }

        boolean has(int number) {
            return number >= 0 && number < size && number < MOST_WORDS;
        }

        int lengthOf(int number) {
            return has(number) ? lengths[number] : 0;
        }

        /** 0 if there is no such word, so that a run that is none adds nothing to an answer. */
        int ringsOf(int number) {
            return has(number) ? rings[number] : 0;
        }

        int kindAt(int number, int index) {
            boolean there = has(number) && isWithin(index, 0, LONGEST_WORD - 1);
            return there ? kinds[number * LONGEST_WORD + index] : 0;
        }

        void changeRings(int number, int value) {
            if (has(number)) {
                rings[number] = value;
            }
        }

        /** Adds the pattern that lies at the beginning of a rope; tells its number. */
        int add(Rope rope, int length, int value) {
            if (!isWithin(size, 0, MOST_WORDS - 1)) {
                return FULL;
            }
            int number = size;
            lengths[number] = length;
            rings[number] = value;
            for (int index = 0; index < LONGEST_WORD; index++) {
                kinds[number * LONGEST_WORD + index] = index < length ? rope.kindAt(index) : 0;
            }
            size++;
            return number;
        }

        /** Whether the knots from a place on begin with the word. */
        boolean standsAt(int number, Rope rope, int first) {
            int length = lengthOf(number);
            for (int index = 0; index < length; index++) {
                if (kindAt(number, index) != rope.kindAt(first + index)) {
                    return false;
                }
            }
            return true;
        }

        /** The word whose pattern stands at a place with just this length; NONE if none does. */
        int find(Rope rope, int first, int length) {
            for (int number = 0; number < size; number++) {
                if (lengthOf(number) == length && standsAt(number, rope, first)) {
                    return number;
                }
            }
            return NONE;
        }

        /** How many places of a run and of the word differ, those of one alone too. */
        int differing(int number, Rope rope, int first, int length) {
            int shared = Math.min(length, lengthOf(number));
            int sum = Math.max(length, lengthOf(number)) - shared;
            for (int index = 0; index < shared; index++) {
                if (kindAt(number, index) != rope.kindAt(first + index)) {
                    sum++;
                }
            }
            return sum;
        }
    }

    /** What the learners have heard, and their accounts. */
    private static final class Learners {
        private int setting;
        private final int[] times;
        private final int[] right;
        private final int[] wrong;

        Learners() {
            setting = FIRST_SETTING;
            times = new int[LEARNERS * MOST_WORDS];
            right = new int[LEARNERS];
            wrong = new int[LEARNERS];
        }

        void copyFrom(Learners other) {
            setting = other.setting;
            for (int index = 0; index < LEARNERS * MOST_WORDS; index++) {
                times[index] = other.times[index];
            }
            for (int number = 0; number < LEARNERS; number++) {
                right[number] = other.right[number];
                wrong[number] = other.wrong[number];
            }
        }

        private static boolean areThere(int number, int word) {
            return isLearner(number) && isWithin(word, 0, MOST_WORDS - 1);
        }

        int timesHeard(int number, int word) {
            return areThere(number, word) ? times[number * MOST_WORDS + word] : 0;
        }

        void hear(int number, int word, int more) {
            if (areThere(number, word)) {
                times[number * MOST_WORDS + word] += more;
            }
        }

        boolean knows(int number, int word) {
            return timesHeard(number, word) >= setting;
        }

        /** How often the word is still to be heard until all know it. */
        int mostMissing(int word) {
            int most = 0;
            for (int number = 0; number < LEARNERS; number++) {
                most = Math.max(most, setting - timesHeard(number, word));
            }
            return most;
        }

        int whoKnow(int word) {
            int members = 0;
            for (int number = 0; number < LEARNERS; number++) {
                if (knows(number, word)) {
                    members |= 1 << number;
                }
            }
            return members;
        }

        int knownBy(int number, int words) {
            int members = 0;
            for (int word = 0; word < MOST_WORDS && word < words; word++) {
                if (knows(number, word)) {
                    members |= 1 << word;
                }
            }
            return members;
        }

        void account(int number, boolean answersRight) {
            if (!isLearner(number)) {
                return;
            }
            if (answersRight) {
                right[number]++;
            } else {
                wrong[number]++;
            }
        }

        int rightOf(int number) {
            return isLearner(number) ? right[number] : 0;
        }

        int wrongOf(int number) {
            return isLearner(number) ? wrong[number] : 0;
        }

        int allRight() {
            int sum = 0;
            for (int number = 0; number < LEARNERS; number++) {
                sum += right[number];
            }
            return sum;
        }

        int allWrong() {
            int sum = 0;
            for (int number = 0; number < LEARNERS; number++) {
                sum += wrong[number];
            }
            return sum;
        }
    }

    /** Everything that undo and the snapshot restore. */
    private static final class State {
        private final Rope rope;
        private final Words words;
        private final Learners learners;
        private int pulls;
        private int slips;
        private int ringings;

        State() {
            rope = new Rope();
            words = new Words();
            learners = new Learners();
            pulls = 0;
            slips = 0;
            ringings = 0;
        }

        void copyFrom(State other) {
            rope.copyFrom(other.rope);
            words.copyFrom(other.words);
            learners.copyFrom(other.learners);
            pulls = other.pulls;
            slips = other.slips;
            ringings = other.ringings;
        }
    }

    /** The latest states, in a ring of rows that are used again. */
    private static final class History {
        private final State[] states;
        private int size;
        /** Where the next state is remembered. */
        private int next;

        History() {
            states = new State[MOST_STATES];
            for (int index = 0; index < MOST_STATES; index++) {
                states[index] = new State();
            }
            size = 0;
            next = 0;
        }

        /** Remembers a state, over the oldest one if the ring is full. */
        void remember(State state) {
            if (!isWithin(next, 0, MOST_STATES - 1) || states[next] == null) {
                return;
            }
            states[next].copyFrom(state);
            next = next == MOST_STATES - 1 ? 0 : next + 1;
            size = Math.min(MOST_STATES, size + 1);
        }

        /** Removes the latest state and copies it into another. */
        void takeBack(State into) {
            int latest = next == 0 ? MOST_STATES - 1 : next - 1;
            if (size == 0 || !isWithin(latest, 0, MOST_STATES - 1) || states[latest] == null) {
                return;
            }
            into.copyFrom(states[latest]);
            next = latest;
            size--;
        }
    }

    /** The text, read as a rope or as a pattern. */
    private static final class Text {
        private final char[] characters;
        private int length;

        Text() {
            characters = new char[TEXT_ROOM];
            length = 0;
        }

        void append(char character) {
            if (isWithin(length, 0, TEXT_ROOM - 1)) {
                characters[length] = character;
                length++;
            }
        }

        void clear() {
            length = 0;
        }

        /** The index of the fault; NONE if there is none. */
        int faultIndex(boolean asRope) {
            if (length == 0) {
                return 0;
            }
            return asRope ? ropeFault() : patternFault();
        }

        private int ropeFault() {
            int places = 0;
            boolean behindKind = false;
            for (int index = 0; index < length; index++) {
                char character = characterAt(index);
                if (character == '!' && behindKind) {
                    behindKind = false;
                } else if (isPlace(character) && places < PLACES) {
                    places++;
                    behindKind = isKind(character);
                } else {
                    return index;
                }
            }
            return NONE;
        }

        private int patternFault() {
            for (int index = 0; index < length; index++) {
                if (!isKind(characterAt(index)) || index >= LONGEST_WORD) {
                    return index;
                }
            }
            return NONE;
        }

        /** What the fault at an index is. */
        int faultKind(boolean asRope, int index) {
            if (index >= length) {
                return ENDS_EARLY;
            }
            char character = characterAt(index);
            // A place is allowed anywhere but behind the last one, so it is one too many.
            if (isKind(character) || (asRope && isPlace(character))) {
                return TOO_LONG;
            }
            return isDigit(character) ? NO_KIND : NOT_ALLOWED;
        }

        /** Lays the rope of a text without a fault; places behind those of the text have no knot. */
        void layOn(Rope rope) {
            rope.clear();
            int place = -1;
            for (int index = 0; index < length; index++) {
                char character = characterAt(index);
                if (character == '!') {
                    rope.put(place, rope.kindAt(place), MOST_TIGHT);
                } else {
                    place++;
                }
                if (isKind(character)) {
                    rope.put(place, character - '0', PLAIN_TIGHT);
                }
            }
        }

        private char characterAt(int index) {
            return isWithin(index, 0, TEXT_ROOM - 1) ? characters[index] : 0;
        }

        private static boolean isDigit(char character) {
            return character >= '0' && character <= '9';
        }

        private static boolean isKind(char character) {
            return character >= '1' && character <= '0' + KINDS;
        }

        private static boolean isPlace(char character) {
            return character == '.' || isKind(character);
        }
    }
}
