import java.util.Arrays;

/** For each promise of the document: ordinary inputs, the edges that it names, wrong inputs. */
public final class PromiseTests {
    private static final int UNKNOWN = -1;
    private static final int BAD_VALUE = -2;
    private static final int FULL = -3;
    private static final int NOT_POSSIBLE = -4;
    private static final int NONE = -5;
    private static final int[] FAR = {Integer.MIN_VALUE, -101, -5, -1, 100, Integer.MAX_VALUE};

    private static final Check check = new Check("PromiseTests");

    private PromiseTests() {
    }

    public static void main(String[] args) {
        constants();
        promise1NewObject();
        promise2Tie();
        promise3Untie();
        promise4Pull();
        promise5LayRope();
        promise6Teach();
        promise7SetRings();
        promise8Ring();
        promise9Forget();
        promise10Tell();
        promise11Set();
        promise12Type();
        promise13ClearText();
        promise14FaultOfRope();
        promise14FaultOfPattern();
        promise15Undo();
        promise15EveryActIsRecorded();
        promise15ErrorsAreNotRecorded();
        promise16Keep();
        promise17Restore();
        promise18Knot();
        promise19Run();
        promises20And21Splits();
        promise22Nearest();
        promise23Word();
        promise24Learner();
        promise25Heard();
        promise26Reason();
        promise27IfPulled();
        promise28SafePull();
        promise29AllRightIn();
        promise30Count();
        stateIsEverything();
        check.finish();
    }

    // ---- helpers

    private static void due(String call, long got, long due) {
        check.due(call, got, due);
    }

    private static void write(RopeKnots x, String text) {
        x.clearText();
        for (char c : text.toCharArray()) {
            x.type(c);
        }
    }

    private static int lay(RopeKnots x, String text) {
        write(x, text);
        return x.layRope();
    }

    private static int teach(RopeKnots x, String pattern, int rings) {
        write(x, pattern);
        return x.teach(rings);
    }

    /** A rope with words 0: "1" (3 rings), 1: "12" (4), 2: "2" (5). */
    private static RopeKnots taught(String rope) {
        RopeKnots x = new RopeKnots();
        teach(x, "1", 3);
        teach(x, "12", 4);
        teach(x, "2", 5);
        due("lay " + rope, lay(x, rope), rope.replaceAll("[^1-5]", "").length());
        return x;
    }

    private static String kindsOf(RopeKnots x) {
        StringBuilder all = new StringBuilder();
        for (int place = 0; place < 40; place++) {
            int kind = x.knot(place, 0);
            all.append(kind == 0 ? '.' : (char) ('0' + kind));
        }
        return all.toString();
    }

    private static String tightsOf(RopeKnots x) {
        StringBuilder all = new StringBuilder();
        for (int place = 0; place < 40; place++) {
            all.append(x.knot(place, 1));
        }
        return all.toString();
    }

    private static void rows(String what, String got, String begin, char rest) {
        String whole = begin + String.valueOf(rest).repeat(40 - begin.length());
        check.holds(what + " is " + whole + ", was " + got, got.equals(whole));
    }

    // ---- the promises

    private static void constants() {
        due("UNKNOWN", RopeKnots.UNKNOWN, UNKNOWN);
        due("BAD_VALUE", RopeKnots.BAD_VALUE, BAD_VALUE);
        due("FULL", RopeKnots.FULL, FULL);
        due("NOT_POSSIBLE", RopeKnots.NOT_POSSIBLE, NOT_POSSIBLE);
        due("NONE", RopeKnots.NONE, NONE);
    }

    private static void promise1NewObject() {
        RopeKnots x = new RopeKnots();
        rows("kinds of a new rope", kindsOf(x), "", '.');
        rows("tightnesses of a new rope", tightsOf(x), "", '0');
        int[] counts = {0, 0, 0, 0, 0, 0, 0, 0, 0, 0, 2, 0, 0};
        for (int what = 0; what < counts.length; what++) {
            due("new: count " + what, x.count(what), counts[what]);
        }
        for (int learner = 0; learner < 6; learner++) {
            for (int what = 0; what < 4; what++) {
                due("new: learner " + learner + " " + what, x.learner(learner, what), 0);
            }
            due("new: heard", x.heard(learner, 0), UNKNOWN);
        }
        due("new: word", x.word(0, 0), UNKNOWN);
        due("new: run", x.run(0, 0), UNKNOWN);
        due("new: restore", x.restore(), NONE);
        due("new: undo", x.undo(), NONE);
        due("new: clearText", x.clearText(), 0);
        RopeKnots other = new RopeKnots();
        x.tie(3, 3, 3);
        due("objects are apart", other.count(0), 0);
    }

    private static void promise2Tie() {
        RopeKnots x = new RopeKnots();
        due("tie 5", x.tie(5, 1, 9), 1);
        due("tie 7 apart", x.tie(7, 2, 1), 2);
        due("tie 6 merges", x.tie(6, 3, 5), 1);
        due("tie at the top", x.tie(0, 5, 5), 2);
        due("tie at the end", x.tie(39, 4, 5), 3);
        due("just this knot", x.tie(39, 4, 5), NONE);
        due("other tightness", x.tie(39, 4, 6), 3);
        due("other kind", x.tie(39, 5, 6), 3);
        due("kind is new", x.knot(39, 0), 5);
        due("tightness is new", x.knot(39, 1), 6);
        due("place -1", x.tie(-1, 1, 1), UNKNOWN);
        due("place 40", x.tie(40, 1, 1), UNKNOWN);
        due("kind 0", x.tie(1, 0, 1), BAD_VALUE);
        due("kind 6", x.tie(1, 6, 1), BAD_VALUE);
        due("tight 0", x.tie(1, 1, 0), BAD_VALUE);
        due("tight 10", x.tie(1, 1, 10), BAD_VALUE);
        due("place is looked at first", x.tie(40, 0, 0), UNKNOWN);
        for (int far : FAR) {
            due("far place", x.tie(far, 1, 1), UNKNOWN);
            due("far kind", x.tie(1, far, 1), BAD_VALUE);
            due("far tight", x.tie(1, 1, far), BAD_VALUE);
        }
        due("nothing else was tied", x.count(0), 5);
        RopeKnots most = new RopeKnots();
        for (int place = 0; place < 40; place += 2) {
            due("every second place", most.tie(place, 1, 1), place / 2 + 1);
        }
        due("20 runs", most.count(1), 20);
    }

    private static void promise3Untie() {
        RopeKnots x = new RopeKnots();
        lay(x, "123");
        due("untie the middle", x.untie(1), 2);
        due("the run parts", x.count(1), 2);
        due("tightness is gone", x.knot(1, 1), 0);
        due("untie it again", x.untie(1), NONE);
        due("untie an empty end", x.untie(39), NONE);
        due("untie above", x.untie(-1), UNKNOWN);
        due("untie below", x.untie(40), UNKNOWN);
        for (int far : FAR) {
            due("untie far", x.untie(far), UNKNOWN);
        }
        due("untie the first", x.untie(0), 1);
        due("untie the last", x.untie(2), 3);
        due("no knots", x.count(0), 0);
    }

    private static void promise4Pull() {
        RopeKnots x = new RopeKnots();
        x.tie(0, 1, 4);
        x.tie(1, 2, 5);
        x.tie(3, 3, 6);
        x.tie(39, 4, 1);
        due("as tight as the pull", x.pull(4), NONE);
        due("not loosened above a tight one", x.pull(5), NONE);
        due("both slip, the lower first", x.pull(6), 2);
        rows("kinds after a pull", kindsOf(x), ".123" + ".".repeat(35) + "4", '.');
        rows("tightnesses after a pull", tightsOf(x), "0456" + "0".repeat(35) + "1", '0');
        due("held by the tight one", x.pull(6), NONE);
        due("all but the last", x.pull(7), 3);
        due("slips in all", x.count(6), 5);
        due("pulls that were not NONE", x.count(5), 2);
        due("knots stay as many", x.count(0), 4);
        due("strength 1", x.pull(1), NONE);
        due("strength 0", x.pull(0), BAD_VALUE);
        due("strength 10", x.pull(10), BAD_VALUE);
        for (int far : FAR) {
            due("far strength", x.pull(far), BAD_VALUE);
        }
        RopeKnots tight = new RopeKnots();
        tight.tie(10, 1, 9);
        due("tightness 9 never slips", tight.pull(9), NONE);
        tight.tie(38, 1, 8);
        due("to the last place", tight.pull(9), 1);
        due("not off the rope", tight.pull(9), NONE);
        due("it is at the last place", tight.knot(39, 1), 8);
    }

    private static void promise5LayRope() {
        RopeKnots x = new RopeKnots();
        x.tie(30, 5, 5);
        due("lay", lay(x, ".12!..3"), 3);
        rows("kinds", kindsOf(x), ".12..3", '.');
        rows("tightnesses", tightsOf(x), "059005", '0');
        due("the text stays", x.count(12), 7);
        due("lay again is an act", x.count(11), 2);
        due("lay again", x.layRope(), 3);
        due("lay again was recorded", x.count(11), 3);
        due("lay no knot", lay(x, "."), 0);
        rows("empty", kindsOf(x), "", '.');
        lay(x, "1");
        due("lay no knot over one at the top", lay(x, "..3"), 1);
        rows("the top is empty", kindsOf(x), "..3", '.');
        due("lay 40", lay(x, "12345".repeat(8)), 40);
        due("tie keeps its tightness", x.knot(39, 1), 5);
        due("lay 40 with marks", lay(x, "1!".repeat(10) + "2".repeat(30)), 40);
        due("marked", x.knot(9, 1), 9);
        due("not marked", x.knot(10, 1), 5);
        due("lay empty", lay(x, ""), -100);
        due("lay a fault", lay(x, "12x"), -102);
        due("a fault lays nothing", x.count(0), 40);
        due("41 places", lay(x, "1".repeat(41)), -140);
        due("50 characters", lay(x, ".".repeat(50)), -140);
        due("fault at the end of 50", lay(x, "1!".repeat(15) + "1".repeat(19) + "6"), -149);
    }

    private static void promise6Teach() {
        RopeKnots x = new RopeKnots();
        due("first", teach(x, "123", 4), 0);
        due("the text stays", x.count(12), 3);
        due("again", x.teach(4), NOT_POSSIBLE);
        due("again with other rings", x.teach(5), NOT_POSSIBLE);
        due("a beginning is another", teach(x, "12", 4), 1);
        due("longest", teach(x, "12345", 9), 2);
        due("six kinds", teach(x, "123451", 9), -105);
        due("empty", teach(x, "", 9), -100);
        due("a place without knot", teach(x, "1.", 9), -101);
        due("a mark", teach(x, "1!", 9), -101);
        due("no kind", teach(x, "126", 9), -102);
        write(x, "");
        due("rings 0", x.teach(0), BAD_VALUE);
        due("rings 10", x.teach(10), BAD_VALUE);
        for (int far : FAR) {
            due("far rings, also with a fault", x.teach(far), BAD_VALUE);
        }
        for (int number = 3; number < 16; number++) {
            due("more", teach(x, "5" + (1 + number / 5) + (1 + number % 5), 1), number);
        }
        due("one too many", teach(x, "4", 1), FULL);
        due("taught already, also if it is full", teach(x, "12", 1), NOT_POSSIBLE);
        due("a fault, also if it is full", teach(x, "0", 1), -100);
        due("rings, also if it is full", teach(x, "0", 0), BAD_VALUE);
        due("16 words", x.count(4), 16);
        x.keep();
        for (int left = 3; left >= 0; left--) {
            due("undo", x.undo(), left);
        }
        due("12 words", x.count(4), 12);
        x.restore();
        due("full again", teach(x, "4", 1), FULL);
        due("which records nothing", x.count(11), 1);
        RopeKnots two = new RopeKnots();
        teach(two, "12", 1);
        due("undone", two.undo(), 0);
        due("no word then", two.count(4), 0);
        due("taught anew", teach(two, "1", 1), 0);
        due("nothing is left of the old one", two.word(0, 5), 0);
    }

    private static void promise7SetRings() {
        RopeKnots x = taught("12.1");
        due("set rings", x.setRings(1, 9), 4);
        due("they are set", x.word(1, 1), 9);
        due("others are not", x.word(0, 1), 3);
        due("the right answer follows", x.count(3), 12);
        due("so already", x.setRings(1, 9), NONE);
        due("back to 1", x.setRings(1, 1), 9);
        due("no word 3", x.setRings(3, 1), UNKNOWN);
        due("no word 3, whatever rings", x.setRings(3, 0), UNKNOWN);
        due("rings 0", x.setRings(0, 0), BAD_VALUE);
        due("rings 10", x.setRings(0, 10), BAD_VALUE);
        for (int far : FAR) {
            due("far word", x.setRings(far, 1), UNKNOWN);
            due("far rings", x.setRings(0, far), BAD_VALUE);
        }
    }

    private static void promise8Ring() {
        RopeKnots x = taught("12.1!2..2.3");
        due("nobody knows", x.ring(), 0);
        due("heard once a run", x.heard(5, 1), 2);
        due("heard 2", x.heard(0, 2), 1);
        due("not on the rope", x.heard(0, 0), 0);
        x.tell(3, 2);
        due("one knows all", x.ring(), 1);
        due("answer before the hearing", x.learner(0, 2), 0);
        due("wrong twice", x.learner(0, 3), 2);
        due("right once", x.learner(3, 2), 1);
        due("wrong once", x.learner(3, 3), 1);
        due("all know", x.ring(), 6);
        due("three rings", x.count(7), 3);
        lay(x, "3.4");
        due("no run is a word", x.ring(), NONE);
        due("that was no ring", x.count(7), 3);
        due("and no answer", x.learner(0, 3), 2);
        lay(x, "121");
        due("parts are no words", x.ring(), NONE);
        due("an empty rope", new RopeKnots().ring(), NONE);
    }

    private static void promise9Forget() {
        RopeKnots x = taught("1.1.1");
        x.ring();
        due("forget", x.forget(2, 0), 3);
        due("never heard", x.heard(2, 0), 0);
        due("again", x.forget(2, 0), NONE);
        due("others have heard", x.heard(1, 0), 3);
        due("another word", x.forget(1, 1), NONE);
        due("no learner", x.forget(6, 0), UNKNOWN);
        due("no word", x.forget(0, 3), UNKNOWN);
        for (int far : FAR) {
            due("far learner", x.forget(far, 0), UNKNOWN);
            due("far word", x.forget(0, far), UNKNOWN);
        }
    }

    private static void promise10Tell() {
        RopeKnots x = taught("12");
        due("once", x.tell(4, 1), 1);
        due("twice", x.tell(4, 1), 2);
        due("only he", x.word(1, 3), 1 << 4);
        due("only this", x.learner(4, 0), 1 << 1);
        due("no learner", x.tell(6, 0), UNKNOWN);
        due("no word", x.tell(0, 3), UNKNOWN);
        for (int far : FAR) {
            due("far learner", x.tell(far, 0), UNKNOWN);
            due("far word", x.tell(0, far), UNKNOWN);
        }
        RopeKnots often = taught("1.1.1.1.1.1.1.1.1.1.1.1.1.1.1.1.1.1.1.1");
        for (int ring = 1; ring < 50; ring++) {
            often.ring();
        }
        due("heard 980", often.heard(0, 0), 980);
        for (int times = 981; times <= 999; times++) {
            due("told", often.tell(0, 0), times);
        }
        due("told 1000", often.tell(0, 0), FULL);
        due("still 999", often.heard(0, 0), 999);
        due("another word", often.tell(0, 1), 1);
        often.ring();
        due("ring brings it above", often.heard(0, 0), 1019);
        due("told above", often.tell(0, 0), FULL);
        due("forgotten", often.forget(0, 0), 1019);
        due("told anew", often.tell(0, 0), 1);
    }

    private static void promise11Set() {
        RopeKnots x = taught("1");
        due("so at first", x.set(2), NONE);
        x.tell(0, 0);
        due("nobody knows", x.word(0, 3), 0);
        due("set 1", x.set(1), 2);
        due("he knows", x.word(0, 3), 1);
        due("set 9", x.set(9), 1);
        due("it is 9", x.count(10), 9);
        due("9 already", x.set(9), NONE);
        due("set 0", x.set(0), BAD_VALUE);
        due("set 10", x.set(10), BAD_VALUE);
        for (int far : FAR) {
            due("far setting", x.set(far), BAD_VALUE);
        }
    }

    private static void promise12Type() {
        RopeKnots x = new RopeKnots();
        char[] any = {'1', '.', '!', ' ', '\n', 0, (char) 233, (char) 255, (char) 256, (char) 0xFFFF, (char) 0xD800};
        for (int length = 1; length <= 50; length++) {
            due("type", x.type(any[length % any.length]), length);
        }
        due("type one more", x.type('1'), FULL);
        due("again", x.type('1'), FULL);
        due("length", x.count(12), 50);
        due("it is no act", x.count(11), 0);
        RopeKnots order = new RopeKnots();
        lay(order, "12");
        due("in order", order.knot(1, 0), 2);
        order.type('3');
        due("behind the text", order.layRope(), 3);
        due("kind behind", order.knot(2, 0), 3);
    }

    private static void promise13ClearText() {
        RopeKnots x = new RopeKnots();
        due("empty", x.clearText(), 0);
        write(x, "1".repeat(50));
        due("full", x.clearText(), 50);
        due("empty then", x.clearText(), 0);
        due("type anew", x.type('2'), 1);
        due("the old text is gone", x.layRope(), 1);
        due("cleared length", x.clearText(), 1);
        due("no act but the lay", x.count(11), 1);
    }

    private static void faultIs(boolean asRope, String text, int index, int kind) {
        RopeKnots x = new RopeKnots();
        write(x, text);
        due("fault 0 of " + text + " as " + asRope, x.fault(asRope, 0), index);
        due("fault 1 of " + text + " as " + asRope, x.fault(asRope, 1), kind);
        due("bad what", x.fault(asRope, 2), BAD_VALUE);
        due("bad what", x.fault(asRope, -1), BAD_VALUE);
        if (index != NONE) {
            due("call with " + text, asRope ? x.layRope() : x.teach(1), -100 - index);
        }
        due("changes nothing", x.count(11), 0);
    }

    private static void promise14FaultOfRope() {
        faultIs(true, "", 0, 1);
        faultIs(true, ".", NONE, NONE);
        faultIs(true, "1", NONE, NONE);
        faultIs(true, "1!", NONE, NONE);
        faultIs(true, "5!.3.!", 5, 4);
        faultIs(true, "!", 0, 4);
        faultIs(true, ".!", 1, 4);
        faultIs(true, "1!!", 2, 4);
        faultIs(true, "0", 0, 2);
        faultIs(true, "16", 1, 2);
        faultIs(true, "1!7", 2, 2);
        faultIs(true, ".8", 1, 2);
        faultIs(true, "9!", 0, 2);
        faultIs(true, "1x6", 1, 4);
        faultIs(true, "/", 0, 4);
        faultIs(true, ":", 0, 4);
        faultIs(true, "" + (char) 0x661, 0, 4);
        String full = ".".repeat(39);
        faultIs(true, full + "1", NONE, NONE);
        faultIs(true, full + "1!", NONE, NONE);
        faultIs(true, full + "1.", 40, 3);
        faultIs(true, full + "1!5", 41, 3);
        faultIs(true, full + "1!!", 41, 4);
        faultIs(true, full + "..", 40, 3);
        faultIs(true, full + ".!", 40, 4);
        faultIs(true, full + "16", 40, 2);
        faultIs(true, full + "1x", 40, 4);
        faultIs(true, "1!".repeat(25), NONE, NONE);
    }

    private static void promise14FaultOfPattern() {
        faultIs(false, "", 0, 1);
        faultIs(false, "1", NONE, NONE);
        faultIs(false, "54321", NONE, NONE);
        faultIs(false, "543215", 5, 3);
        faultIs(false, "5432156", 5, 3);
        faultIs(false, "543216", 5, 2);
        faultIs(false, "54321.", 5, 4);
        faultIs(false, "54321!", 5, 4);
        faultIs(false, ".", 0, 4);
        faultIs(false, "1!", 1, 4);
        faultIs(false, "10", 1, 2);
        faultIs(false, "129", 2, 2);
        faultIs(false, "12 ", 2, 4);
        for (int far : FAR) {
            due("far what", new RopeKnots().fault(false, far), BAD_VALUE);
            due("far what", new RopeKnots().fault(true, far), BAD_VALUE);
        }
    }

    private static void promise15Undo() {
        RopeKnots x = new RopeKnots();
        for (int place = 0; place < 6; place++) {
            x.tie(2 * place, 1, 1);
        }
        due("at most 4", x.count(11), 4);
        due("undo", x.undo(), 3);
        due("latest first", x.count(0), 5);
        due("undo", x.undo(), 2);
        due("undo", x.undo(), 1);
        due("undo", x.undo(), 0);
        due("oldest that is kept", x.count(0), 2);
        due("undo with none", x.undo(), NONE);
        due("still so", x.count(0), 2);
        x.tie(20, 1, 1);
        x.tie(22, 1, 1);
        due("undo after new acts", x.undo(), 1);
        due("restored", x.count(0), 3);
        x.tie(24, 1, 1);
        due("recorded behind what is left", x.count(11), 2);
        due("undo", x.undo(), 1);
        due("undo", x.undo(), 0);
        due("restored", x.count(0), 2);
        write(x, "123");
        x.layRope();
        write(x, "1");
        x.undo();
        due("undo leaves the text", x.count(12), 1);
    }

    private static void promise15EveryActIsRecorded() {
        String[] acts = {
            "tie", "untie", "pull", "layRope", "teach", "setRings", "ring", "tell", "set", "forget", "restore"
        };
        for (int act = 0; act < acts.length; act++) {
            RopeKnots x = taught("1.2");
            x.tell(2, 0);
            x.keep();
            x.undo();
            x.undo();
            x.undo();
            x.undo();
            x.restore();
            int[] before = digest(x);
            write(x, act == 3 ? "..." : "3");
            due("states before " + acts[act], x.count(11), 1);
            check.holds(acts[act] + " is done", act(x, act) >= 0);
            due(acts[act] + " was recorded", x.count(11), 2);
            check.holds(acts[act] + " is seen", act == 10 || !Arrays.equals(before, digest(x)));
            due(acts[act] + " is undone", x.undo(), 1);
            check.holds(acts[act] + " is wholly undone", Arrays.equals(before, digest(x)));
        }
    }

    private static int act(RopeKnots x, int act) {
        switch (act) {
            case 0:
                return x.tie(0, 2, 2);
            case 1:
                return x.untie(0);
            case 2:
                return x.pull(6);
            case 3:
                return x.layRope();
            case 4:
                return x.teach(7);
            case 5:
                return x.setRings(0, 9);
            case 6:
                return x.ring();
            case 7:
                return x.tell(2, 1);
            case 8:
                return x.set(5);
            case 9:
                return x.forget(2, 0);
            default:
                return x.restore();
        }
    }

    /** All of a small state that is told, but for the history and the text. */
    private static int[] digest(RopeKnots x) {
        int[] all = new int[40];
        int at = 0;
        for (int place = 0; place < 4; place++) {
            all[at++] = x.knot(place, 0) * 10 + x.knot(place, 1);
        }
        for (int what = 0; what < 11; what++) {
            all[at++] = x.count(what);
        }
        for (int word = 0; word < 3; word++) {
            all[at++] = x.word(word, 1);
            all[at++] = x.word(word, 3);
            all[at++] = x.heard(2, word);
            all[at++] = x.word(word, 0);
        }
        all[at++] = x.learner(1, 2);
        all[at++] = x.learner(1, 3);
        return all;
    }

    private static void promise15ErrorsAreNotRecorded() {
        RopeKnots x = taught("1");
        x.undo();
        due("states", x.count(11), 3);
        write(x, "1");
        x.tie(40, 1, 1);
        x.tie(0, 0, 1);
        x.untie(40);
        x.untie(3);
        x.pull(0);
        x.pull(9);
        x.teach(0);
        x.teach(1);
        x.setRings(9, 9);
        x.setRings(0, 3);
        x.ring();
        x.forget(0, 0);
        x.forget(9, 9);
        x.tell(9, 9);
        x.set(2);
        x.set(0);
        x.restore();
        write(x, "");
        x.layRope();
        x.fault(true, 0);
        x.keep();
        x.ifPulled(9, 0);
        x.safePull();
        x.allRightIn();
        due("states are as many", x.count(11), 3);
        due("undo goes to the second word", x.undo(), 2);
        due("words", x.count(4), 2);
    }

    private static void promise16Keep() {
        RopeKnots x = taught("1.12");
        due("keep", x.keep(), 3);
        due("keep is no act", x.count(11), 4);
        x.untie(0);
        due("keep in place of it", x.keep(), 2);
        x.untie(2);
        due("restore the later one", x.restore(), 2);
        due("its kind is there", x.knot(2, 0), 1);
        due("keep none", new RopeKnots().keep(), 0);
    }

    private static void promise17Restore() {
        RopeKnots x = taught("1.2");
        due("no snapshot", x.restore(), NONE);
        x.keep();
        x.ring();
        x.ring();
        x.pull(9);
        x.set(7);
        x.setRings(0, 8);
        write(x, "4444");
        due("restore", x.restore(), 2);
        due("text stays", x.count(12), 4);
        due("history stays", x.count(11), 4);
        due("rings of the rope", x.count(7), 0);
        due("pulls", x.count(5), 0);
        due("slips", x.count(6), 0);
        due("wrong", x.count(9), 0);
        due("setting", x.count(10), 2);
        due("rings", x.word(0, 1), 3);
        due("heard", x.heard(0, 0), 0);
        due("place", x.knot(0, 0), 1);
        due("restore is undone", x.undo(), 3);
        due("setting is back", x.count(10), 7);
        due("the snapshot stays", x.restore(), 2);
        due("setting", x.count(10), 2);
        x.tie(9, 1, 1);
        due("changes do not reach it", x.restore(), 2);
        due("undo does not reach it", x.undo(), 3);
        RopeKnots early = new RopeKnots();
        early.tie(0, 1, 1);
        early.keep();
        early.undo();
        due("the snapshot is no part of a state", early.restore(), 1);
    }

    private static void promise18Knot() {
        RopeKnots x = taught("1.2!2.");
        x.tie(39, 4, 7);
        due("kind", x.knot(39, 0), 4);
        due("tightness", x.knot(39, 1), 7);
        due("run", x.knot(39, 2), 2);
        due("first run", x.knot(0, 2), 0);
        due("second run", x.knot(2, 2), 1);
        due("second run, second knot", x.knot(3, 2), 1);
        due("kind of none", x.knot(1, 0), 0);
        due("tightness of none", x.knot(1, 1), 0);
        due("run of none", x.knot(1, 2), NONE);
        due("run of none behind all", x.knot(38, 2), NONE);
        due("what 3", x.knot(1, 3), BAD_VALUE);
        due("what -1", x.knot(0, -1), BAD_VALUE);
        due("place -1", x.knot(-1, 0), UNKNOWN);
        due("place 40 first", x.knot(40, 3), UNKNOWN);
        for (int far : FAR) {
            due("far place", x.knot(far, 0), UNKNOWN);
            due("far what", x.knot(0, far), BAD_VALUE);
        }
    }

    private static void promise19Run() {
        RopeKnots x = taught(".12.2..12!1");
        x.tie(39, 1, 3);
        x.tie(8, 2, 2);
        int[][] dues = {{1, 2, 1, 5}, {4, 1, 2, 5}, {7, 3, NONE, 2}, {39, 1, 0, 3}};
        for (int run = 0; run < dues.length; run++) {
            for (int what = 0; what < 4; what++) {
                due("run " + run + " " + what, x.run(run, what), dues[run][what]);
            }
        }
        due("run 4", x.run(4, 0), UNKNOWN);
        due("run 4, what 4", x.run(4, 4), UNKNOWN);
        due("what 4", x.run(0, 4), BAD_VALUE);
        due("what -1", x.run(0, -1), BAD_VALUE);
        for (int far : FAR) {
            due("far run", x.run(far, 0), UNKNOWN);
            due("far what", x.run(0, far), BAD_VALUE);
        }
        RopeKnots tight = taught("3!4!.3");
        due("all are tight", tight.run(0, 3), 9);
        due("the other run is not", tight.run(1, 3), 5);
    }

    private static void bothSplits(RopeKnots x, int run, int ways) {
        due("splits " + run, x.splits(run), ways);
        due("splitsBack " + run, x.splitsBack(run), ways);
    }

    private static void promises20And21Splits() {
        RopeKnots x = taught("12.121212.3.1231.21.1");
        bothSplits(x, 0, 2);
        bothSplits(x, 1, 8);
        bothSplits(x, 2, 0);
        bothSplits(x, 3, 0);
        bothSplits(x, 4, 1);
        bothSplits(x, 5, 1);
        bothSplits(x, 6, UNKNOWN);
        for (int far : FAR) {
            bothSplits(x, far, UNKNOWN);
        }
        teach(x, "31", 1);
        bothSplits(x, 3, 2);
        RopeKnots most = new RopeKnots();
        teach(most, "1", 1);
        teach(most, "11", 1);
        lay(most, "1".repeat(19));
        bothSplits(most, 0, 6765);
        lay(most, "1".repeat(20));
        bothSplits(most, 0, 9999);
        lay(most, "1".repeat(40));
        bothSplits(most, 0, 9999);
        lay(most, "1".repeat(39) + "2");
        bothSplits(most, 0, 0);
        lay(most, "2" + "1".repeat(39));
        bothSplits(most, 0, 0);
        RopeKnots none = new RopeKnots();
        lay(none, "1");
        bothSplits(none, 0, 0);
    }

    private static void promise22Nearest() {
        RopeKnots x = taught("12.22.3.2212.11");
        int[][] dues = {{1, 0}, {1, 1}, {0, 1}, {1, 3}, {0, 1}};
        for (int run = 0; run < dues.length; run++) {
            due("nearest " + run + " 0", x.nearest(run, 0), dues[run][0]);
            due("nearest " + run + " 1", x.nearest(run, 1), dues[run][1]);
        }
        teach(x, "34512", 1);
        lay(x, "3.34");
        due("a longer word differs by its rest", x.nearest(0, 1), 1);
        due("of several the lowest", x.nearest(0, 0), 0);
        due("two of two", x.nearest(1, 1), 2);
        due("the lowest of these", x.nearest(1, 0), 0);
        due("no run", x.nearest(2, 0), UNKNOWN);
        due("no run, bad what", x.nearest(2, 2), UNKNOWN);
        due("what 2", x.nearest(0, 2), BAD_VALUE);
        due("what -1", x.nearest(0, -1), BAD_VALUE);
        for (int far : FAR) {
            due("far run", x.nearest(far, 0), UNKNOWN);
            due("far what", x.nearest(0, far), BAD_VALUE);
        }
        RopeKnots beside = new RopeKnots();
        teach(beside, "12345", 1);
        lay(beside, "1.345");
        due("the next run does not count", beside.nearest(0, 1), 4);
        lay(beside, "3.12345");
        due("nor does the one above", beside.nearest(0, 1), 5);
        RopeKnots none = new RopeKnots();
        lay(none, "1");
        due("no word", none.nearest(0, 0), NONE);
        due("no word", none.nearest(0, 1), NONE);
        due("no word, bad what", none.nearest(0, 2), BAD_VALUE);
        due("no word, no run", none.nearest(1, 0), UNKNOWN);
    }

    private static void promise23Word() {
        RopeKnots x = taught("12.1.12.12.121");
        teach(x, "54321", 9);
        x.tell(0, 1);
        x.tell(0, 1);
        x.tell(5, 1);
        x.tell(5, 1);
        x.tell(4, 1);
        int[][] dues = {
            {1, 3, 1, 0, 1, 0, 0, 0, 0},
            {2, 4, 3, 33, 1, 2, 0, 0, 0},
            {1, 5, 0, 0, 2, 0, 0, 0, 0},
            {5, 9, 0, 0, 5, 4, 3, 2, 1}
        };
        for (int word = 0; word < dues.length; word++) {
            for (int what = 0; what < 9; what++) {
                due("word " + word + " " + what, x.word(word, what), dues[word][what]);
            }
        }
        due("word 4", x.word(4, 0), UNKNOWN);
        due("word 4, what 9", x.word(4, 9), UNKNOWN);
        due("what 9", x.word(0, 9), BAD_VALUE);
        due("what -1", x.word(0, -1), BAD_VALUE);
        for (int far : FAR) {
            due("far word", x.word(far, 0), UNKNOWN);
            due("far what", x.word(0, far), BAD_VALUE);
        }
    }

    private static void promise24Learner() {
        RopeKnots x = taught("12.1.1.3");
        x.set(1);
        x.tell(2, 0);
        x.tell(2, 2);
        due("words", x.learner(2, 0), 5);
        due("answer", x.learner(2, 1), 6);
        due("answer of another", x.learner(0, 1), 0);
        x.ring();
        due("answer then", x.learner(0, 1), 10);
        due("words then", x.learner(0, 0), 3);
        x.ring();
        due("right", x.learner(2, 2), 1);
        due("wrong", x.learner(2, 3), 1);
        due("learner 6", x.learner(6, 0), UNKNOWN);
        due("learner 6, what 4", x.learner(6, 4), UNKNOWN);
        due("what 4", x.learner(5, 4), BAD_VALUE);
        due("what -1", x.learner(5, -1), BAD_VALUE);
        for (int far : FAR) {
            due("far learner", x.learner(far, 0), UNKNOWN);
            due("far what", x.learner(0, far), BAD_VALUE);
        }
        RopeKnots all = new RopeKnots();
        all.set(1);
        for (int word = 0; word < 16; word++) {
            teach(all, "" + (1 + word / 5) + (1 + word % 5), 1);
            all.tell(1, word);
        }
        due("all 16 words", all.learner(1, 0), 0xFFFF);
    }

    private static void promise25Heard() {
        RopeKnots x = taught("12.12.1");
        x.ring();
        x.tell(5, 2);
        due("by rings", x.heard(0, 1), 2);
        due("by rings", x.heard(0, 0), 1);
        due("told", x.heard(5, 2), 1);
        due("not told", x.heard(4, 2), 0);
        due("word 3", x.heard(0, 3), UNKNOWN);
        due("learner 6", x.heard(6, 0), UNKNOWN);
        for (int far : FAR) {
            due("far learner", x.heard(far, 0), UNKNOWN);
            due("far word", x.heard(0, far), UNKNOWN);
        }
    }

    private static void promise26Reason() {
        RopeKnots x = taught("3.12.1.2");
        due("first word of all", x.reason(0), 101);
        x.tell(0, 1);
        due("heard once is not enough", x.reason(0), 101);
        x.tell(0, 1);
        due("first that he does not know", x.reason(0), 102);
        due("of another", x.reason(1), 101);
        x.ring();
        x.ring();
        due("right", x.reason(0), 0);
        due("learner 6", x.reason(6), UNKNOWN);
        due("learner -1", x.reason(-1), UNKNOWN);
        lay(x, "2.1");
        x.forget(5, 2);
        due("the first run of all", x.reason(5), 100);
        lay(x, "3.33");
        due("no word", x.reason(0), NONE);
        due("learner first", x.reason(6), UNKNOWN);
        for (int far : FAR) {
            due("far learner", x.reason(far), UNKNOWN);
        }
    }

    private static void promise27IfPulled() {
        RopeKnots x = taught("1.12.2!.3");
        String kinds = kindsOf(x);
        int[][] dues = {{0, 4, 3, 12}, {4, 4, 1, 5}};
        for (int what = 0; what < 4; what++) {
            due("weak " + what, x.ifPulled(1, what), dues[0][what]);
            due("not strong enough " + what, x.ifPulled(5, what), dues[0][what]);
        }
        // 1 12 2! 3 become .1.122!..3: the run 122 is no word
        due("slips", x.ifPulled(6, 0), 4);
        due("runs", x.ifPulled(6, 1), 3);
        due("words", x.ifPulled(6, 2), 1);
        due("answer", x.ifPulled(9, 3), 3);
        check.holds("nothing moves", kinds.equals(kindsOf(x)));
        due("no pull", x.count(5), 0);
        due("strength 0", x.ifPulled(0, 0), BAD_VALUE);
        due("strength 10", x.ifPulled(10, 0), BAD_VALUE);
        due("what 4", x.ifPulled(1, 4), BAD_VALUE);
        due("what -1", x.ifPulled(1, -1), BAD_VALUE);
        for (int far : FAR) {
            due("far strength", x.ifPulled(far, 0), BAD_VALUE);
            due("far what", x.ifPulled(1, far), BAD_VALUE);
        }
        due("empty rope", new RopeKnots().ifPulled(9, 0), 0);
    }

    private static void promise28SafePull() {
        due("empty", new RopeKnots().safePull(), 9);
        RopeKnots x = taught("1.12.2!.3");
        due("merges at 6", x.safePull(), 5);
        due("is no pull", x.count(5), 0);
        RopeKnots weak = new RopeKnots();
        teach(weak, "12", 1);
        weak.tie(0, 1, 9);
        weak.tie(1, 2, 1);
        due("parts with 2", weak.safePull(), 1);
        RopeKnots strong = new RopeKnots();
        teach(strong, "12", 1);
        strong.tie(0, 1, 4);
        strong.tie(1, 2, 2);
        // 3 and 4 part the word, from 5 on it slips as a whole
        due("a weaker one parts", strong.ifPulled(3, 2), 0);
        due("a stronger one does not", strong.safePull(), 9);
        strong.tie(0, 1, 8);
        due("from 9 on", strong.safePull(), 9);
        strong.tie(0, 1, 9);
        due("never", strong.safePull(), 2);
        RopeKnots swap = new RopeKnots();
        teach(swap, "1", 1);
        teach(swap, "2", 1);
        teach(swap, "21", 1);
        lay(swap, "2.1.2");
        due("all slip", swap.safePull(), 9);
        swap.tie(2, 1, 9);
        due("2 and 1 become 21", swap.safePull(), 5);
        RopeKnots other = new RopeKnots();
        teach(other, "1", 1);
        teach(other, "2", 1);
        other.tie(0, 1, 3);
        other.tie(1, 2, 9);
        other.tie(3, 1, 9);
        due("one word of now", other.count(2), 1);
        other.tie(1, 2, 6);
        // with 7 the knots 1 and 2 slip: run 121 takes the word away
        due("the word is lost", other.safePull(), 6);
        RopeKnots renamed = new RopeKnots();
        teach(renamed, "1", 1);
        teach(renamed, "2", 1);
        teach(renamed, "12", 1);
        renamed.tie(38, 1, 9);
        renamed.tie(39, 2, 9);
        due("a tight word", renamed.safePull(), 9);
        RopeKnots more = new RopeKnots();
        teach(more, "1", 1);
        more.tie(0, 1, 9);
        more.tie(3, 2, 9);
        more.tie(4, 1, 5);
        due("a word more is not the same", more.safePull(), 5);
    }

    private static void promise29AllRightIn() {
        RopeKnots x = taught("12.1.1.1.3");
        due("the word told least", x.allRightIn(), 2);
        x.set(9);
        due("nine for one run", x.allRightIn(), 9);
        x.set(7);
        for (int learner = 0; learner < 6; learner++) {
            for (int times = 0; times < 6; times++) {
                x.tell(learner, 1);
            }
        }
        due("7 by threes", x.allRightIn(), 3);
        x.ring();
        due("one less", x.allRightIn(), 2);
        x.ring();
        x.ring();
        due("now", x.allRightIn(), 0);
        x.forget(4, 0);
        due("one alone has forgotten", x.allRightIn(), 3);
        x.ring();
        x.ring();
        x.ring();
        x.forget(0, 0);
        due("the first alone has forgotten", x.allRightIn(), 3);
        lay(x, "1.1.1.1.1.1.1");
        due("all at once", x.allRightIn(), 1);
        lay(x, "3");
        due("no word", x.allRightIn(), NONE);
        due("it rings nothing", x.count(7), 6);
    }

    private static void promise30Count() {
        RopeKnots x = taught("12.1.2!.3");
        x.set(1);
        x.pull(9);
        x.undo();
        x.tell(3, 0);
        x.tell(3, 1);
        x.tell(3, 2);
        x.ring();
        x.ring();
        x.pull(6);
        x.pull(6);
        lay(x, "12.1.2!.3");
        int[] dues = {5, 4, 3, 12, 3, 2, 7, 2, 7, 5, 1, 4, 9};
        for (int what = 0; what < dues.length; what++) {
            due("count " + what, x.count(what), dues[what]);
        }
        due("what 13", x.count(13), BAD_VALUE);
        for (int far : FAR) {
            due("far what", x.count(far), BAD_VALUE);
        }
    }

    /** Undo and the snapshot bring back each part of a state. */
    private static void stateIsEverything() {
        RopeKnots x = new RopeKnots();
        x.keep();
        teach(x, "1", 5);
        x.set(1);
        lay(x, "1!.1");
        x.ring();
        x.ring();
        x.tie(0, 1, 1);
        x.pull(9);
        due("restore", x.restore(), 0);
        int[] counts = {0, 0, 0, 0, 0, 0, 0, 0, 0, 0, 2, 4, 4};
        for (int what = 0; what < counts.length; what++) {
            due("restored: count " + what, x.count(what), counts[what]);
        }
        due("restored: learner", x.learner(0, 0), 0);
        due("restored: right", x.learner(0, 2), 0);
        x.undo();
        due("undone: words", x.count(4), 1);
        due("undone: rings", x.count(7), 2);
        due("undone: right", x.count(8), 6);
        due("undone: wrong", x.count(9), 6);
        due("undone: slips", x.count(6), 2);
        due("undone: setting", x.count(10), 1);
        due("undone: heard", x.heard(5, 0), 4);
        RopeKnots y = new RopeKnots();
        teach(y, "123", 5);
        y.keep();
        y.undo();
        teach(y, "54", 6);
        y.restore();
        int[] word = {3, 5, 0, 0, 1, 2, 3, 0, 0};
        for (int what = 0; what < word.length; what++) {
            due("restored: word 0 " + what, y.word(0, what), word[what]);
        }
        y.undo();
        int[] before = {2, 6, 0, 0, 5, 4, 0, 0, 0};
        for (int what = 0; what < before.length; what++) {
            due("undone: word 0 " + what, y.word(0, what), before[what]);
        }
    }
}
