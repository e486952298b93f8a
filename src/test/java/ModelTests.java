import java.util.Random;

/** Runs of calls, the same in each test run, compared with the model call by call. */
public final class ModelTests {
    private static final int RUNS = 3000;
    private static final int CALLS = 512;
    private static final int LONGEST_TURN = 50;

    private final Check check = new Check("ModelTests");
    private final Random random;
    private final RopeKnots rope = new RopeKnots();
    private final Model model = new Model();
    private final int seed;
    /** How many kinds this run likes to use: with few of them words are found more often. */
    private final int kinds;
    private int calls = 0;

    private ModelTests(int seed) {
        this.seed = seed;
        random = new Random(seed);
        kinds = 1 + random.nextInt(3);
    }

    public static void main(String[] args) {
        Check all = new Check("ModelTests");
        for (int seed = 0; seed < RUNS; seed++) {
            ModelTests run = new ModelTests(seed);
            run.go();
            all.holds("run " + seed + " as the model", !run.check.hasWrong());
            if (run.check.hasWrong()) {
                break;
            }
        }
        all.finish();
    }

    private void go() {
        while (calls < CALLS && !check.hasWrong()) {
            // What is answered behind the last call is free, so the last turns are of one call.
            int turn = calls + LONGEST_TURN > CALLS ? 16 + random.nextInt(84) : random.nextInt(100);
            if (turn < 12) {
                teachSome();
            } else if (turn < 16) {
                laySome();
            } else if (turn < 50) {
                act();
            } else {
                ask();
            }
        }
    }

    private void due(String call, long got, long due) {
        calls++;
        check.due("run " + seed + ", call " + calls + ": " + call, got, due);
    }

    /** Mostly a number of the range, else one beside it or far from it. */
    private int near(int least, int most) {
        switch (random.nextInt(25)) {
            case 0:
                return least - 1;
            case 1:
                return most + 1;
            case 2:
                return random.nextBoolean() ? Integer.MIN_VALUE : Integer.MAX_VALUE;
            default:
                return least + random.nextInt(most - least + 1);
        }
    }

    /** Mostly the number of one of those that there are. */
    private int nearOf(int size) {
        return near(0, Math.max(0, size - 1));
    }

    private void type(char c) {
        due("type " + (int) c, rope.type(c), model.type(c));
    }

    private void clear() {
        due("clearText", rope.clearText(), model.clearText());
    }

    private void typeKinds(int most) {
        int length = 1 + random.nextInt(most);
        for (int i = 0; i < length; i++) {
            type((char) ('1' + random.nextInt(kinds)));
        }
    }

    private void teachSome() {
        clear();
        typeKinds(random.nextInt(20) == 0 ? 7 : 3);
        odd();
        int rings = near(1, 9);
        due("teach " + rings, rope.teach(rings), model.teach(rings));
    }

    private void laySome() {
        clear();
        int parts = 1 + random.nextInt(9);
        for (int i = 0; i < parts; i++) {
            if (random.nextInt(4) > 0) {
                typeKinds(3);
            }
            if (random.nextInt(3) == 0) {
                type('!');
            }
            if (random.nextInt(4) > 0) {
                type('.');
            }
        }
        odd();
        due("layRope", rope.layRope(), model.layRope());
    }

    /** Sometimes a character that may not be allowed. */
    private void odd() {
        if (random.nextInt(8) == 0) {
            String signs = "06789!.x /:\u0000\u00b2\u0661";
            type(signs.charAt(random.nextInt(signs.length())));
        }
    }

    private void act() {
        int a = near(0, 39);
        int b = near(1, kinds);
        int c = near(1, 9);
        int learner = near(0, 5);
        int word = nearOf(model.count(4));
        switch (random.nextInt(14)) {
            case 0:
            case 1:
                due("tie " + a + " " + b + " " + c, rope.tie(a, b, c), model.tie(a, b, c));
                break;
            case 2:
                due("untie " + a, rope.untie(a), model.untie(a));
                break;
            case 3:
            case 4:
                due("pull " + c, rope.pull(c), model.pull(c));
                break;
            case 5:
                due("setRings " + word + " " + c, rope.setRings(word, c), model.setRings(word, c));
                break;
            case 6:
            case 7:
                due("ring", rope.ring(), model.ring());
                break;
            case 8:
                due("forget " + learner + " " + word, rope.forget(learner, word), model.forget(learner, word));
                break;
            case 9:
                due("tell " + learner + " " + word, rope.tell(learner, word), model.tell(learner, word));
                break;
            case 10:
                due("set " + c, rope.set(c), model.set(c));
                break;
            case 11:
                due("undo", rope.undo(), model.undo());
                break;
            case 12:
                due("keep", rope.keep(), model.keep());
                break;
            default:
                due("restore", rope.restore(), model.restore());
                break;
        }
    }

    private void ask() {
        int run = nearOf(model.count(1));
        int learner = near(0, 5);
        int word = nearOf(model.count(4));
        int what = near(0, 3);
        switch (random.nextInt(14)) {
            case 0:
                int place = near(0, 39);
                due("knot " + place + " " + what, rope.knot(place, what), model.knot(place, what));
                break;
            case 1:
                due("run " + run + " " + what, rope.run(run, what), model.run(run, what));
                break;
            case 2:
                due("splits " + run, rope.splits(run), model.splits(run));
                break;
            case 3:
                due("splitsBack " + run, rope.splitsBack(run), model.splitsBack(run));
                break;
            case 4:
                int which = near(0, 1);
                due("nearest " + run + " " + which, rope.nearest(run, which), model.nearest(run, which));
                break;
            case 5:
                int part = near(0, 8);
                due("word " + word + " " + part, rope.word(word, part), model.word(word, part));
                break;
            case 6:
                due("learner " + learner + " " + what, rope.learner(learner, what), model.learner(learner, what));
                break;
            case 7:
                due("heard " + learner + " " + word, rope.heard(learner, word), model.heard(learner, word));
                break;
            case 8:
                due("reason " + learner, rope.reason(learner), model.reason(learner));
                break;
            case 9:
                int strength = near(1, 9);
                due("ifPulled " + strength + " " + what, rope.ifPulled(strength, what), model.ifPulled(strength, what));
                break;
            case 10:
                due("safePull", rope.safePull(), model.safePull());
                break;
            case 11:
                due("allRightIn", rope.allRightIn(), model.allRightIn());
                break;
            case 12:
                boolean asRope = random.nextBoolean();
                int side = near(0, 1);
                due("fault " + asRope + " " + side, rope.fault(asRope, side), model.fault(asRope, side));
                break;
            default:
                int number = near(0, 12);
                due("count " + number, rope.count(number), model.count(number));
                break;
        }
    }
}
