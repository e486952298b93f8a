import java.util.Set;
import java.util.TreeSet;

/**
 * Each sentence of the document that names a boundary case, as a test of its own: a row is the
 * number of its promise, what is so by the sentence, and the calls that tell it (see Script).
 *
 * <p>Sentences of the document's "Terms" and "ERRORS" stand under the promise that shows them.
 * That a refused call changes nothing is looked at by Script for each call that is refused here.
 */
public final class BoundaryTests {
    private static final int PROMISES = 30;

    private static final String NEW_OBJECT = """
        1 no place has a knot at first: kinds .; tights 0
        1 there is no run at first: count 1 = 0; run 0 0 = UNKNOWN
        1 no word is taught at first: count 4 = 0; word 0 0 = UNKNOWN
        1 learners know no word at first: learner {0 1 2 3 4 5} 0 = 0
        1 a learner has heard a word 0 times at first: taught 1 1; heard {0 1 2 3 4 5} 0 = 0
        1 no learner has answered at first: learner {0 1 2 3 4 5} {2 3} = 0; count {8 9} = 0
        1 nothing is counted at first: count {0 1 2 3 4 5 6 7 8 9} = 0
        1 the setting 0 is 2 at first: count 10 = 2
        1 the text is empty at first: count 12 = 0; clearText = 0
        1 the history is empty at first: count 11 = 0; undo = NONE
        1 the snapshot is empty at first: restore = NONE
        1 the 512th call is answered: taught 1 1; rope 1; times 505 ring; heard 5 0 = 505
        1 the 512th call is an act: taught 1 1; rope 1; times 505 ring; ring = 6
        1 the 512th call takes an act back: tie 0 1 1; times 510 tie 0 1 1 = NONE; undo = 0
        """;

    private static final String TIE = """
        2 the first place is 0: tie 0 1 1 = 1; kinds 1
        2 the last place is 39: tie 39 1 1 = 1; kinds .*39+1
        2 a place too small: tie {-1 MIN} 1 1 = UNKNOWN
        2 a place too large: tie {40 41 MAX} 1 1 = UNKNOWN
        2 the least kind is 1: tie 7 1 3 = 1; knot 7 0 = 1
        2 the greatest kind is 5: tie 7 5 3 = 1; knot 7 0 = 5
        2 a kind too small: tie 0 {0 -1 MIN} 1 = BAD_VALUE
        2 a kind too large: tie 0 {6 7 MAX} 1 = BAD_VALUE
        2 the least tightness is 1: tie 7 3 1 = 1; knot 7 1 = 1
        2 the greatest tightness is 9: tie 7 3 9 = 1; knot 7 1 = 9
        2 a tightness too small: tie 0 1 {0 -1 MIN} = BAD_VALUE
        2 a tightness too large: tie 0 1 {10 11 MAX} = BAD_VALUE
        2 the place is looked at ahead of the kind: tie {-1 40} {0 6} 1 = UNKNOWN
        2 the place is looked at ahead of the tightness: tie {-1 40} 1 {0 10} = UNKNOWN
        2 just this knot already: tie 7 2 3 = 1; tie 7 2 3 = NONE
        2 a greater tightness is another knot: tie 7 2 3 = 1; tie 7 2 4 = 1; knot 7 1 = 4
        2 a smaller tightness is another knot: tie 7 2 3 = 1; tie 7 2 2 = 1; knot 7 1 = 2
        2 a greater kind is another knot: tie 7 2 3 = 1; tie 7 3 3 = 1; knot 7 0 = 3
        2 a smaller kind is another knot: tie 7 2 3 = 1; tie 7 1 3 = 1; knot 7 0 = 1
        2 this knot at another place is another: tie 7 2 3 = 1; tie 8 2 3 = 1; count 0 = 2
        2 a knot in place of one that is there: rope 123; tie 1 5 7 = 1; kinds 153; tights 575
        2 a knot right above a run is of it: rope .1; tie 0 2 1 = 1
        2 a knot right below a run is of it: rope 1; tie 1 2 1 = 1
        2 one place between makes two runs: rope 1; tie 2 2 1 = 2
        2 a knot between two runs makes them one: rope 1.1; tie 1 2 1 = 1
        2 the most runs are 20: rope 1.*19; tie 38 1 1 = 20; tie 39 1 1 = 20; tie 37 1 1 = 19
        2 a full rope is one run: rope 1*39; tie 39 1 1 = 1
        2 it is an act: rope 1; tie 0 2 7; undo = 1; kinds 1; tights 5
        """;

    private static final String UNTIE = """
        3 the first place is 0: rope 2.3; untie 0 = 2; kinds ..3
        3 the last place is 39: tie 39 4 1; untie 39 = 4; kinds .
        3 a place too small: rope 1; untie {-1 MIN} = UNKNOWN
        3 a place too large: tie 39 1 1; untie {40 41 MAX} = UNKNOWN
        3 no knot there: rope 1.1; untie 1 = NONE
        3 no knot on an empty rope: untie {0 39} = NONE
        3 no knot there any more: rope 1; untie 0 = 1; untie 0 = NONE
        3 the least and the greatest kind are told: rope 15; untie 0 = 1; untie 1 = 5
        3 its tightness goes with it: rope 1!; untie 0 = 1; knot 0 1 = 0
        3 the knots beside it stay: rope 123; untie 1 = 2; kinds 1.3; tights 505
        3 the last knot leaves no run: rope 1; untie 0 = 1; count {0 1} = 0; run 0 0 = UNKNOWN
        3 it is an act: rope 1!; untie 0; undo = 1; kinds 1; tights 9
        """;

    private static final String PULL = """
        4 a strength too small: rope 1; pull {0 -1 MIN} = BAD_VALUE
        4 a strength too large: rope 1; pull {10 11 MAX} = BAD_VALUE
        4 the strength is looked at ahead of none that slips: pull {0 10} = BAD_VALUE
        4 with strength 1 none slips: tie 0 1 1; pull 1 = NONE
        4 with strength 2 only tightness 1 slips: tie 0 1 1; tie 9 1 2; pull 2 = 1
        4 with strength 9 tightness 8 slips: tie 0 1 8; pull 9 = 1
        4 tightness 9 never slips: tie 0 1 9; pull 9 = NONE
        4 a tightness as the strength does not slip: rope 1; pull 5 = NONE
        4 a tightness one less slips: rope 1; pull 6 = 1
        4 a knot slips by one place alone: rope 1; pull 9 = 1; kinds .1; tights 05
        4 the place above the last is left: tie 38 1 1; pull 9 = 1; kinds .*39+1
        4 the last place is never left: tie 39 1 1; pull 9 = NONE
        4 a knot above one at the last place stays: tie 38 1 1; tie 39 2 1; pull 9 = NONE
        4 a knot above a tight one stays: rope 12!; pull 9 = NONE
        4 a knot above one that stays stays: rope 123!; pull 9 = NONE
        4 the lowest is first, so that all of a run slip: rope 123; pull 9 = 3; kinds .123
        4 a knot above one that slips slips: rope 1.23!.4; pull 9 = 2; kinds .123+..4
        4 the next place may be right above a knot: rope 1.2!; pull 9 = 1; kinds .12
        4 a tight knot above stays alone: rope 1!2; pull 9 = 1; kinds 1.2; tights 905
        4 they keep their kinds: tie 0 4 3; tie 1 5 2; pull 9 = 2; kinds .45
        4 they keep their tightnesses: tie 0 4 3; tie 1 5 2; pull 9 = 2; tights 032
        4 on a full rope none slips: rope 1*40; pull 9 = NONE
        4 one place free at the end is room for 39: rope 1*39; pull 9 = 39; kinds .+1*39
        4 on an empty rope none slips: pull 9 = NONE
        4 a pull with which none slips is not counted: rope 1!; pull 9 = NONE; count {5 6} = 0
        4 it is an act: rope 1; pull 9; undo = 1; kinds 1; count {5 6} = 0
        """;

    private static final String LAY_ROPE = """
        5 the empty text is no rope: layRope = -100
        5 one place without a knot is enough: text .; layRope = 0
        5 one knot is enough: text 3; layRope = 1; kinds 3
        5 40 places are allowed: text 1*40; layRope = 40; kinds 1*40
        5 40 places without knots are allowed: text .*40; layRope = 0
        5 41 places are too many: text 1*41; layRope = -140
        5 41 places are too many without knots too: text .*41; layRope = -140
        5 a "!" is no place: text 1!*25; layRope = 25; tights 9*25
        5 a "!" behind the 40th place is allowed: text .*39+1!; layRope = 1; knot 39 1 = 9
        5 the least and the greatest kind: text 15; layRope = 2; kinds 15
        5 a tightness is 9 with "!", otherwise 5: text 12!3; layRope = 3; tights 595
        5 a "!" is of the knot right ahead of it: text 1.2!3; layRope = 3; tights 5095
        5 kinds too small and too large are no places: text 0; layRope = -100; text 16; layRope = -101
        5 a "!" is not allowed at the beginning: text !1; layRope = -100
        5 a "!" is not allowed behind ".": text .!; layRope = -101
        5 a "!" is not allowed behind "!": text 1!!; layRope = -102
        5 a fault at the first of two: text x1; layRope = -100
        5 a fault at the last of two: text 1x; layRope = -101
        5 a fault at the last of 50: text 1!*24+1x; layRope = -149
        5 of two faults the first counts: text 1x.x; layRope = -101
        5 a fault lays nothing: rope 3; text 12x; layRope = -102; kinds 3
        5 a rope too long lays nothing: rope 3; text 1*41; layRope = -140; kinds 3
        5 it comes in place of all knots: rope 1*40; text ..2; layRope = 1; kinds ..2; tights 005
        5 places behind those of the text have no knot: tie 39 1 1; text 1; layRope = 1; kinds 1
        5 a rope without knots takes all away: rope 1; text .; layRope = 0; kinds .; tights 0
        5 the text stays: text 12; layRope = 2; count 12 = 2; layRope = 2
        5 the text stays with its fault: text 1x; layRope = -101; count 12 = 2
        5 it is an act: rope 1!; rope .2; undo = 1; kinds 1; tights 9
        5 it is an act also with no knot: text .; layRope = 0; count 11 = 1
        5 it is an act also if just this rope is there: rope 1; layRope = 1; count 11 = 2
        """;

    private static final String TEACH = """
        6 the least rings are 1: taught 1 1 = 0; word 0 1 = 1
        6 the most rings are 9: taught 1 9 = 0; word 0 1 = 9
        6 rings too small: text 1; teach {0 -1 MIN} = BAD_VALUE
        6 rings too large: text 1; teach {10 11 MAX} = BAD_VALUE
        6 the empty text is no pattern: teach 1 = -100
        6 one kind is enough: text 1; teach 1 = 0; word 0 0 = 1
        6 five kinds are allowed: text 12345; teach 1 = 0; word 0 0 = 5
        6 six kinds are too many: text 123451; teach 1 = -105
        6 50 kinds are too many: text 1*50; teach 1 = -105
        6 kinds too small and too large are no kinds: text 0; teach 1 = -100; text 16; teach 1 = -101
        6 a place without a knot is no kind: text .; teach 1 = -100; text 1.; teach 1 = -101
        6 a "!" is no kind: text 1!; teach 1 = -101
        6 a fault at the last of five: text 1234x; teach 1 = -104
        6 of two faults the first counts: text 1xx; teach 1 = -101
        6 a pattern that is taught already: taught 12 3 = 0; teach 3 = NOT_POSSIBLE
        6 a pattern that is taught with other rings: taught 12 3 = 0; teach 4 = NOT_POSSIBLE
        6 a pattern that the last word has: taught {1 2 3} 1; teach 1 = NOT_POSSIBLE
        6 the beginning of a pattern is another: taught 12 1 = 0; taught 1 1 = 1
        6 a longer pattern is another: taught 12 1 = 0; taught 123 1 = 1
        6 the same kinds in another order are another: taught 12 1 = 0; taught 21 1 = 1
        6 the first word is 0, the next is 1: taught 5 1 = 0; taught 4 1 = 1
        6 the 16th word is 15: sixteen 1; undo; taught 32 1 = 15; count 4 = 16
        6 16 words are full: sixteen 1; taught {32 33333} 1 = FULL; count 4 = 16
        6 rings are looked at ahead of a fault: text 1x; teach {0 10} = BAD_VALUE
        6 rings are looked at ahead of the empty text: teach {0 10} = BAD_VALUE
        6 rings are looked at ahead of a word that is there: taught 1 1; teach {0 10} = BAD_VALUE
        6 rings are looked at ahead of no room: sixteen 1; text 35; teach {0 10} = BAD_VALUE
        6 a fault is looked at ahead of no room: sixteen 1; text 3x; teach 1 = -101;
            text; teach 1 = -100; text 333333; teach 1 = -105
        6 a word that is there is looked at ahead of no room: sixteen 1;
            taught {1 15 31} 2 = NOT_POSSIBLE
        6 the text stays: taught 12 1; count 12 = 2; layRope = 2; kinds 12
        6 the text stays with its fault: text 1x; teach 1 = -101; count 12 = 2
        6 a word taken back leaves room: sixteen 1; undo; taught 32 1 = 15
        6 a word taken back may be taught again: taught 1 3 = 0; undo; taught 1 4 = 0; word 0 1 = 4
        6 of a word taken back no kind is left: taught 123 1; undo; taught 4 1; word 0 {5 6 7 8} = 0
        6 nobody has heard a word in place of one taken back: taught 1 1; tell 0 0; times 2 undo;
            taught 2 1 = 0; heard 0 0 = 0
        6 it is an act: taught 1 1; taught 2 1; undo = 1; count 4 = 1; word 1 0 = UNKNOWN
        """;

    private static final String SET_RINGS = """
        7 the first word is 0: taught {1 2} 3; setRings 0 4 = 3; word 0 1 = 4; word 1 1 = 3
        7 the last word is 15: sixteen 3;
            setRings 15 4 = 3; word 15 1 = 4; word 14 1 = 3; setRings 16 4 = UNKNOWN
        7 a word too small: taught 1 1; setRings {-1 MIN} 2 = UNKNOWN
        7 a word too large: taught 1 1; setRings {1 15 16 MAX} 2 = UNKNOWN
        7 no word is taught: setRings 0 2 = UNKNOWN
        7 a word taken back: taught 1 1; undo; setRings 0 2 = UNKNOWN
        7 the least rings are 1: taught 1 5; setRings 0 1 = 5; word 0 1 = 1
        7 the most rings are 9: taught 1 5; setRings 0 9 = 5; word 0 1 = 9
        7 rings too small: taught 1 1; setRings 0 {0 -1 MIN} = BAD_VALUE
        7 rings too large: taught 1 9; setRings 0 {10 11 MAX} = BAD_VALUE
        7 the word is looked at ahead of the rings: taught 1 1; setRings {-1 1} {0 10} = UNKNOWN
        7 so already: taught 1 4; setRings 0 4 = NONE
        7 so by an earlier change: taught 1 4; setRings 0 5 = 4; setRings 0 5 = NONE
        7 it is an act: taught 1 4; setRings 0 5; undo = 1; word 0 1 = 4
        """;

    private static final String RING = """
        8 no run on an empty rope: taught 1 1; ring = NONE
        8 no run is a word without words: rope 1; ring = NONE
        8 no run that only begins with a word is one: taught 12 1; rope 123.312; ring = NONE
        8 no run that is only a word's beginning is one: taught 12 1; rope 1.2; ring = NONE
        8 no ring without a word is counted: taught 1 1; rope 2; ring = NONE; count 7 = 0
        8 no answer without a word is counted: taught 1 1; rope 2; ring = NONE;
            count {8 9} = 0; learner {0 1 2 3 4 5} {2 3} = 0
        8 no learner answers right: taught 1 1; rope 1; ring = 0; count 8 = 0; count 9 = 6
        8 one learner answers right: taught 1 1; rope 1; times 2 tell 5 0; ring = 1; learner 5 2 = 1;
            learner 5 3 = 0; learner 4 2 = 0; learner 4 3 = 1
        8 all learners answer right: taught 1 1; rope 1; times 2 ring; ring = 6; count 8 = 6
        8 they answer ahead of hearing: taught 1 1; rope 1; set 1; ring = 0; ring = 6
        8 a word that is not known among some makes wrong: taught {1 2} 1; rope 1.2;
            times 2 tell 0 0; ring = 0; tell 0 1; ring = 1
        8 a run that is no word makes nothing wrong: taught 1 1; rope 3.1.3; times 2 tell 0 0; ring = 1
        8 a word not on the rope makes nothing wrong: taught {1 2} 1; rope 1; times 2 tell 0 0; ring = 1
        8 a word is heard once more for each run: taught 1 1; rope 1.1.1; ring; heard 0 0 = 3
        8 a word on 20 runs is heard 20 times: taught 1 1; rope 1.*19+1; ring; heard {0 5} 0 = 20
        8 a word that is no run is not heard: taught {1 2 12} 1; rope 12; ring; heard 0 {0 1} = 0
        8 each learner has heard it: taught 1 1; rope 1; ring; heard {0 1 2 3 4 5} 0 = 1
        8 the last word is heard: sixteen 3; rope 31; ring = 0; heard 0 15 = 1; heard 0 14 = 0
        8 it may bring heard above 999: taught 1 1; rope 1.*19+1; times 50 ring; heard 0 0 = 1000
        8 it is an act: taught 1 1; rope 1; ring; undo = 2; count {7 8 9} = 0; heard {0 5} 0 = 0
        """;

    private static final String FORGET = """
        9 the first learner is 0: taught 1 1; tell {0 1} 0; forget 0 0 = 1; heard 0 0 = 0; heard 1 0 = 1
        9 the last learner is 5: taught 1 1; tell {4 5} 0; forget 5 0 = 1; heard 5 0 = 0; heard 4 0 = 1
        9 a learner too small: taught 1 1; forget {-1 MIN} 0 = UNKNOWN
        9 a learner too large: taught 1 1; forget {6 7 MAX} 0 = UNKNOWN
        9 the first word is 0: taught {1 2} 1; tell 0 {0 1}; forget 0 0 = 1; heard 0 1 = 1
        9 the last word is 15: sixteen 3; tell 5 15; forget 5 15 = 1; forget 5 16 = UNKNOWN
        9 a word too small: taught 1 1; forget 0 {-1 MIN} = UNKNOWN
        9 a word too large: taught 1 1; forget 0 {1 16 MAX} = UNKNOWN
        9 no word is taught: forget 0 0 = UNKNOWN
        9 he had not heard it: taught 1 1; forget 0 0 = NONE
        9 he had forgotten it: taught 1 1; tell 0 0; forget 0 0 = 1; forget 0 0 = NONE
        9 he had heard another word: taught {1 2} 1; tell 0 0; forget 0 1 = NONE
        9 another learner had heard it: taught 1 1; tell 0 0; forget 1 0 = NONE
        9 he forgets more than 999 too: taught 1 1; rope 1.*19+1; times 50 ring;
            forget 0 0 = 1000; heard 0 0 = 0
        9 his account stays: taught 1 1; rope 1; times 3 ring; forget 0 0 = 3;
            learner 0 2 = 1; learner 0 3 = 2
        9 it is an act: taught 1 1; tell 0 0; forget 0 0; undo = 2; heard 0 0 = 1
        """;

    private static final String TELL = """
        10 the first learner is 0: taught 1 1; tell 0 0 = 1; heard 0 0 = 1; heard {1 2 3 4 5} 0 = 0
        10 the last learner is 5: taught 1 1; tell 5 0 = 1; heard 5 0 = 1; heard {0 1 2 3 4} 0 = 0
        10 a learner too small: taught 1 1; tell {-1 MIN} 0 = UNKNOWN
        10 a learner too large: taught 1 1; tell {6 7 MAX} 0 = UNKNOWN
        10 the first word is 0: taught {1 2} 1; tell 0 0 = 1; heard 0 1 = 0
        10 the last word is 15: sixteen 3; tell 0 15 = 1; heard 0 14 = 0; tell 0 16 = UNKNOWN
        10 a word too small: taught 1 1; tell 0 {-1 MIN} = UNKNOWN
        10 a word too large: taught 1 1; tell 0 {1 16 MAX} = UNKNOWN
        10 no word is taught: tell 0 0 = UNKNOWN
        10 999 is not more than 999: taught 1 1; rope 1.*19+1; times 49 ring; rope 1.*17+1; ring;
            heard 0 0 = 998; tell 0 0 = 999
        10 1000 is more than 999: taught 1 1; rope 1.*19+1; times 49 ring; rope 1.*18+1; ring;
            heard 0 0 = 999; tell 0 0 = FULL
        10 above 999 by rings it is more too: taught 1 1; rope 1.*19+1; times 50 ring;
            heard 0 0 = 1000; tell 0 0 = FULL
        10 at 999 of one word there is room of another: taught {1 2} 1; rope 1.*19+1;
            times 50 ring; tell 0 1 = 1
        10 at 999 of one learner there is room of another: taught 1 1; rope 1.*19+1;
            times 50 ring; forget 5 0; tell 5 0 = 1; tell 0 0 = FULL
        10 rings go on at 999: taught 1 1; rope 1.*19+1; times 49 ring; rope 1.*18+1; times 2 ring;
            heard 0 0 = 1018
        10 no account changes: taught 1 1; rope 1; tell 0 0; learner 0 {2 3} = 0; count {7 8 9} = 0
        10 it is an act: taught 1 1; tell 0 0; undo = 1; heard 0 0 = 0
        """;

    private static final String SET = """
        11 the least is 1: set 1 = 2; count 10 = 1
        11 the greatest is 9: set 9 = 2; count 10 = 9
        11 a value too small: set {0 -1 MIN} = BAD_VALUE
        11 a value too large: set {10 11 MAX} = BAD_VALUE
        11 so already at first: set 2 = NONE
        11 so already: set 3 = 2; set 3 = NONE
        11 one less than the setting is not known: taught 1 1; set 9; times 8 tell 0 0; word 0 3 = 0
        11 as often as the setting is known: taught 1 1; set 9; times 9 tell 0 0; word 0 3 = 1
        11 one more than the setting is known: taught 1 1; set 9; times 10 tell 0 0; word 0 3 = 1
        11 once is enough with 1: taught 1 1; set 1; word 0 3 = 0; tell 0 0; word 0 3 = 1
        11 twice is enough at first: taught 1 1; tell 0 0; word 0 3 = 0; tell 0 0; word 0 3 = 1
        11 what is known may be known no more: taught 1 1; times 2 tell 0 0; set 3; learner 0 0 = 0
        11 what is not known may be known then: taught 1 1; tell 0 0; set 1; learner 0 0 = 1
        11 it is an act: set 3; set 4; undo = 1; count 10 = 3
        """;

    private static final String TYPE = """
        12 the first character: type 1 = 1
        12 the 50th character: times 49 type 1; type 1 = 50
        12 the 51st character: times 50 type 1; type 1 = FULL; count 12 = 50
        12 the 51st, whichever it is: times 50 type 1; type {! . x #0 #65535} = FULL
        12 a full text stays as it is: text 1!*25; type {1 !} = FULL; layRope = 25; kinds 1*25
        12 the first and the last of all characters: type #0 = 1; type #65535 = 2
        12 signs beside one byte: type #127 = 1; type #128 = 2; type #255 = 3; type #256 = 4
        12 a character not allowed is typed too: type x = 1; fault asRope 0 = 0
        12 it goes behind the text: text 1; type 2 = 2; layRope = 2; kinds 12
        12 it is no act: type 1; count 11 = 0; undo = NONE; count 12 = 1
        """;

    private static final String CLEAR_TEXT = """
        13 the empty text: clearText = 0
        13 one character: type 1; clearText = 1; count 12 = 0
        13 the full text: times 50 type 1; clearText = 50; count 12 = 0
        13 it is empty then: type 1; clearText = 1; clearText = 0; layRope = -100
        13 there is room for 50 again: times 50 type 1; clearText = 50; times 50 type 2; type 2 = FULL
        13 what was typed is gone: text 123; clearText = 3; type 4 = 1; layRope = 1; kinds 4
        13 it is no act: type 1; clearText = 1; count 11 = 0; undo = NONE
        13 the rope and the words stay: taught 1 1; rope 1; clearText = 1; count {0 4} = 1
        """;

    private static final String FAULT = """
        14 what is too small: fault {asRope asPattern} {-1 MIN} = BAD_VALUE
        14 what is too large: fault {asRope asPattern} {2 3 MAX} = BAD_VALUE
        14 what is looked at ahead of no fault: text 1; fault {asRope asPattern} {-1 2} = BAD_VALUE
        14 no fault: text 1; fault {asRope asPattern} {0 1} = NONE
        14 the empty text ends too early: fault {asRope asPattern} 0 = 0; fault {asRope asPattern} 1 = 1
        14 a rope without knots has no fault: text .; fault asRope {0 1} = NONE
        14 a rope of 40 places has no fault: text .*40; fault asRope {0 1} = NONE
        14 a rope of 50 characters has no fault: text 1!*25; fault asRope {0 1} = NONE
        14 a 40th place with "!" has no fault: text .*39+1!; fault asRope {0 1} = NONE
        14 a kind as 41st place is too long: text .*40+5; fault asRope 0 = 40; fault asRope 1 = 3
        14 a "." as 41st place is too long: text 1*40+.; fault asRope 0 = 40; fault asRope 1 = 3
        14 a 41st place behind "!" is too long: text .*39+1!.; fault asRope 0 = 41; fault asRope 1 = 3
        14 only the first place too many counts: text 1*50; fault asRope 0 = 40; fault asRope 1 = 3
        14 a "!" behind a 40th "." is not allowed: text .*40+!; fault asRope 0 = 40; fault asRope 1 = 4
        14 a "!" behind a 40th "!" is not allowed: text .*39+1!!; fault asRope 0 = 41; fault asRope 1 = 4
        14 a digit that is no kind behind 40 places: text .*40+6; fault asRope 0 = 40; fault asRope 1 = 2
        14 another sign behind 40 places: text .*40+x; fault asRope 0 = 40; fault asRope 1 = 4
        14 a sign behind one place too many: text 1*41+x; fault asRope 0 = 40; fault asRope 1 = 3
        14 a kind too small for a rope: text 0; fault asRope 0 = 0; fault asRope 1 = 2
        14 a kind too large for a rope: text 6; fault asRope 0 = 0; fault asRope 1 = 2
        14 the greatest digit in a rope: text 9; fault asRope 0 = 0; fault asRope 1 = 2
        14 the signs beside the digits in a rope: type /; fault asRope 1 = 4; clearText;
            type #58; fault asRope 1 = 4
        14 the signs beside "." and "!" in a rope: clearText; type -; fault asRope 1 = 4; clearText;
            type #34; fault asRope 1 = 4; clearText; type #32; fault asRope 1 = 4
        14 a digit that is no kind behind a kind: text 10; fault asRope 0 = 1; fault asRope 1 = 2
        14 a digit that is no kind behind "!": text 1!7; fault asRope 0 = 2; fault asRope 1 = 2
        14 a digit that is no kind behind ".": text .8; fault asRope 0 = 1; fault asRope 1 = 2
        14 a "!" at the beginning: text !; fault asRope 0 = 0; fault asRope 1 = 4
        14 a "!" behind ".": text .!; fault asRope 0 = 1; fault asRope 1 = 4
        14 a "!" behind "!": text 1!!; fault asRope 0 = 2; fault asRope 1 = 4
        14 signs beside "!" behind a kind: text 1; type #32; fault asRope 0 = 1; fault asRope 1 = 4;
            text 1; type #34; fault asRope 0 = 1; fault asRope 1 = 4
        14 the first sign of all behind a kind: text 1; type #0; fault asRope 0 = 1; fault asRope 1 = 4
        14 a "!" once behind each kind: text 1!2!; fault asRope {0 1} = NONE
        14 the first and the last sign of all in a rope: type #0; fault asRope 1 = 4; clearText;
            type #65535; fault asRope 1 = 4
        14 the first fault of a rope counts: text 1x6; fault asRope 0 = 1; fault asRope 1 = 4;
            text 16x; fault asRope 0 = 1; fault asRope 1 = 2
        14 a fault of a rope at the last of 50: text 1!*24+1x; fault asRope 0 = 49; fault asRope 1 = 4
        14 a pattern of one kind has no fault: text 5; fault asPattern {0 1} = NONE
        14 a pattern of five kinds has no fault: text 12345; fault asPattern {0 1} = NONE
        14 the sixth kind is too long: text 123451; fault asPattern 0 = 5; fault asPattern 1 = 3
        14 only the sixth kind counts: text 1*50; fault asPattern 0 = 5; fault asPattern 1 = 3
        14 a digit that is no kind behind five: text 123450; fault asPattern 0 = 5; fault asPattern 1 = 2
        14 a "." behind five kinds is not too long: text 12345.; fault asPattern 0 = 5;
            fault asPattern 1 = 4
        14 a "!" behind five kinds is not too long: text 12345!; fault asPattern 0 = 5;
            fault asPattern 1 = 4
        14 a kind too small for a pattern: text 0; fault asPattern 0 = 0; fault asPattern 1 = 2
        14 a kind too large for a pattern: text 16; fault asPattern 0 = 1; fault asPattern 1 = 2
        14 the greatest digit in a pattern: text 9; fault asPattern 0 = 0; fault asPattern 1 = 2
        14 a "." in a pattern: text .; fault asPattern 0 = 0; fault asPattern 1 = 4
        14 a "!" in a pattern: text 1!; fault asPattern 0 = 1; fault asPattern 1 = 4
        14 the signs beside the digits in a pattern: type /; fault asPattern 1 = 4; clearText;
            type #58; fault asPattern 1 = 4
        14 the first fault of a pattern counts: text 1x6; fault asPattern 0 = 1;
            fault asPattern 1 = 4; text 16x; fault asPattern 1 = 2
        14 one text, read in both ways: text 1.!; fault asRope 0 = 2; fault asPattern 0 = 1
        """;

    private static final String UNDO = """
        15 the history is empty: undo = NONE
        15 one state: tie 0 1 1; undo = 0; undo = NONE
        15 four states are kept: tie {0 2 4 6} 1 1; count 11 = 4; undo = 3; undo = 2; undo = 1;
            undo = 0; kinds .
        15 of five the oldest is dropped: tie {0 2 4 6 8} 1 1; count 11 = 4; undo = 3; undo = 2;
            undo = 1; undo = 0; undo = NONE; kinds 1
        15 of nine the oldest five are dropped: tie {0 2 4 6 8 10 12 14 16} 1 1; count 11 = 4;
            times 4 undo; undo = NONE; kinds 1.1.1.1.1
        15 the latest state is first: tie {0 2 4} 1 1; undo = 2; kinds 1.1; undo = 1; kinds 1
        15 it records nothing: tie {0 2} 1 1; undo = 1; undo = 0; kinds .
        15 acts go behind what is left: tie {0 2 4} 1 1; times 2 undo; tie 9 1 1; undo = 1; kinds 1;
            undo = 0; kinds .
        15 the history fills again: tie {0 2 4 6 8} 1 1; times 4 undo; tie {20 22 24 26 28} 1 1;
            count 11 = 4; times 4 undo; kinds 1+.*19+1
        15 an error is not recorded: tie 0 1 1; tie {-1 40} 1 1 = UNKNOWN; tie 0 6 1 = BAD_VALUE;
            layRope = -100; undo = 0; kinds .
        15 NONE is not recorded: tie 0 1 9; tie 0 1 9 = NONE; untie 1 = NONE; pull 9 = NONE;
            ring = NONE; set 2 = NONE; restore = NONE; undo = 0; kinds .
        15 the text is no part of a state: type 1; tie 0 1 1; type 2; undo = 0; count 12 = 2
        15 an empty text stays empty: text 1; tie 0 1 1; clearText; undo = 0; count 12 = 0
        15 the snapshot is no part of a state: tie 0 1 1; keep = 1; undo = 0; restore = 1; kinds 1
        15 kinds and tightnesses are of a state: tie 3 4 7; tie 3 5 8; undo; knot 3 0 = 4; knot 3 1 = 7
        15 words are of a state: taught 12 3; taught 345 6; undo; count 4 = 1; word 1 0 = UNKNOWN
        15 patterns are of a state: taught 12345 3; keep; undo; taught 54 6; restore; undo = 1;
            word 0 0 = 2; word 0 1 = 6; word 0 4 = 5; word 0 5 = 4; word 0 {6 7 8} = 0
        15 the last word is of a state: sixteen 3; keep; undo; taught 32 6; restore; undo;
            word 15 0 = 2; word 15 1 = 6; word 15 4 = 3; word 15 5 = 2
        15 what the last learner has heard of the last word: sixteen 3; times 2 tell 5 15; undo;
            heard 5 15 = 1; undo; heard 5 15 = 0
        15 rings of words are of a state: taught 1 3; setRings 0 4; undo; word 0 1 = 3
        15 what is heard is of a state: taught 1 1; tell 0 0; tell 0 0; undo; heard 0 0 = 1
        15 the setting 0 is of a state: set 9; undo; count 10 = 2
        15 the accounts are of a state: taught 1 1; rope 1; times 3 ring; times 2 undo;
            count 8 = 0; count 9 = 6; learner 0 3 = 1; learner 0 2 = 0
        15 right answers are of a state: taught 1 1; rope 1; times 4 ring; undo; count 8 = 6;
            learner 5 2 = 1
        15 pulls, slips and rings are of a state: taught 2 1; rope 12.2; pull 9; ring; undo;
            count 5 = 1; count 6 = 3; count 7 = 0; undo; count {5 6 7} = 0
        15 undo takes an undone act back for good: tie 0 1 1; undo = 0; undo = NONE; kinds .
        """;

    private static final String KEEP = """
        16 no knots: keep = 0
        16 a full rope: rope 1*40; keep = 40
        16 it comes in place of the one that was: rope 1; keep = 1; rope 22; keep = 2; rope .;
            restore = 2; kinds 22
        16 it is no act: keep = 0; count 11 = 0; undo = NONE
        16 later acts do not reach it: taught 1 3; rope 1; keep = 1; tie 0 2 2; setRings 0 9; set 9;
            tell 0 0; restore = 1; kinds 1; tights 5; word 0 1 = 3; count 10 = 2; heard 0 0 = 0
        16 the text is not of it: text 1; keep; type 2; restore; count 12 = 2
        16 the history is not of it: tie 0 1 1; keep; tie {2 4} 1 1; restore; count 11 = 4
        """;

    private static final String RESTORE = """
        17 no snapshot: restore = NONE; tie 0 1 1; restore = NONE
        17 a snapshot of a new object is one: keep = 0; tie 0 1 1; restore = 0; kinds .
        17 a full rope: rope 1*40; keep; rope .; restore = 40; kinds 1*40
        17 the snapshot stays: rope 1; keep; rope 22; restore = 1; rope 333; restore = 1; kinds 1
        17 undo does not take the snapshot away: keep = 0; restore = 0; undo = 0; restore = 0
        17 acts behind it do not reach the snapshot: rope 1; keep; restore = 1; tie 0 2 2; tie 5 5 5;
            restore = 1; kinds 1; tights 5
        17 it is an act: rope 1; keep; rope 22; restore; undo = 2; kinds 22
        17 it is an act also if nothing differs: rope 1; keep; restore = 1; count 11 = 2
        17 a full history drops its oldest: keep; tie {0 2 4 6} 1 1; restore = 0; count 11 = 4;
            times 4 undo; kinds 1
        17 the text stays: text 1x; keep; clearText; type 2; restore = 0; count 12 = 1
        17 more words than now come back: taught {1 2} 3; keep; times 2 undo; restore = 0; count 4 = 2;
            word 1 1 = 3
        17 fewer words than now come back: keep; taught {1 2} 3; restore = 0; count 4 = 0;
            word 0 0 = UNKNOWN
        17 patterns come back: taught 12345 3; keep; undo; taught 54 6; restore = 0; word 0 0 = 5;
            word 0 1 = 3; word 0 4 = 1; word 0 5 = 2; word 0 6 = 3; word 0 7 = 4; word 0 8 = 5
        17 the last word comes back: sixteen 3; keep; undo; taught 32333 6; restore = 0;
            word 15 0 = 2; word 15 1 = 3; word 15 4 = 3; word 15 5 = 1; word 15 {6 7 8} = 0
        17 what the last learner has heard of the last word comes back: sixteen 3; tell 5 15; keep;
            tell 5 15; restore = 0; heard 5 15 = 1
        17 what is heard and the accounts come back: taught 1 1; rope 1; ring; keep; times 3 ring;
            restore = 1; heard 0 0 = 1; count 7 = 1; count 8 = 0; count 9 = 6; learner 5 3 = 1
        17 pulls, slips and the setting come back: rope 1; pull 9; keep; pull 9; set 9; restore = 1;
            count {5 6} = 1; count 10 = 2
        """;

    private static final String KNOT = """
        18 the first place is 0: rope 3!; knot 0 0 = 3; knot 0 1 = 9; knot 0 2 = 0
        18 the last place is 39: tie 39 3 4; knot 39 0 = 3; knot 39 1 = 4; knot 39 2 = 0
        18 a place too small: tie 0 1 1; knot {-1 MIN} {0 1 2} = UNKNOWN
        18 a place too large: tie 39 1 1; knot {40 41 MAX} {0 1 2} = UNKNOWN
        18 what is too small: rope 1; knot 0 {-1 MIN} = BAD_VALUE
        18 what is too large: rope 1; knot 0 {3 4 MAX} = BAD_VALUE
        18 the place is looked at ahead of what: knot {-1 40} {-1 3} = UNKNOWN
        18 what is looked at ahead of no knot: knot 0 {-1 3} = BAD_VALUE
        18 the kind without a knot: rope 1.1; knot 1 0 = 0
        18 the tightness without a knot: rope 1.1; knot 1 1 = 0
        18 the run without a knot: rope 1.1; knot 1 2 = NONE
        18 the run without a knot, above and below all: rope .1; knot {0 2 39} 2 = NONE
        18 the least and the greatest kind: rope 15; knot 0 0 = 1; knot 1 0 = 5
        18 the least and the greatest tightness: tie 0 1 1; tie 1 1 9; knot 0 1 = 1; knot 1 1 = 9
        18 all knots of a run are of it: rope 1.234.5; knot {2 3 4} 2 = 1; knot 6 2 = 2
        18 the last of 20 runs is 19: rope 1.*19+1; knot 38 2 = 19; knot 36 2 = 18; knot 37 2 = NONE
        18 a full rope is the run 0: rope 1*40; knot {0 20 39} 2 = 0
        """;

    private static final String RUN = """
        19 the first run is 0, the uppermost: rope ..1.22; run 0 0 = 2; run 0 1 = 1
        19 the last of 20 runs is 19: rope 1.*19+1; run 19 0 = 38; run 20 0 = UNKNOWN
        19 a run too small: rope 1; run {-1 MIN} 0 = UNKNOWN
        19 a run too large: rope 1.1; run {2 3 20 MAX} 0 = UNKNOWN
        19 no run on an empty rope: run 0 {0 1 2 3} = UNKNOWN
        19 what is too small: rope 1; run 0 {-1 MIN} = BAD_VALUE
        19 what is too large: rope 1; run 0 {4 5 MAX} = BAD_VALUE
        19 the run is looked at ahead of what: rope 1; run {-1 1} {-1 4} = UNKNOWN
        19 the first and the last place: tie 0 1 1; tie 39 1 1; run 0 0 = 0; run 1 0 = 39
        19 a run of one knot: rope .1; run 0 0 = 1; run 0 1 = 1
        19 a run of 40 knots: rope 1*40; run 0 0 = 0; run 0 1 = 40
        19 a run that ends at the last place: tie {37 38 39} 1 1; run 0 0 = 37; run 0 1 = 3
        19 the run is no word: taught 12 1; rope 1; run 0 2 = NONE
        19 no run is a word without words: rope 1; run 0 2 = NONE
        19 a run that begins with a word is none: taught 12 1; rope 123; run 0 2 = NONE
        19 a run that ends with a word is none: taught 12 1; rope 312; run 0 2 = NONE
        19 a run of six knots is no word: taught 11111 1; rope 111111; run 0 2 = NONE
        19 the first word is 0: taught {1 2} 1; rope 1; run 0 2 = 0
        19 the last word is 15: sixteen 1; rope 31; run 0 2 = 15
        19 the least tightness at the first knot: tie 0 1 2; tie 1 1 3; tie 2 1 4; run 0 3 = 2
        19 the least tightness at the last knot: tie 0 1 4; tie 1 1 3; tie 2 1 2; run 0 3 = 2
        19 the least tightness at the last place: tie 38 1 4; tie 39 1 3; run 0 3 = 3
        19 the least tightness at the first place: tie 0 1 3; tie 1 1 4; run 0 3 = 3
        19 the least looseness is 1: tie 0 1 9; tie 1 1 1; tie 2 1 9; run 0 3 = 1
        19 the greatest looseness is 9: rope 1!2!; run 0 3 = 9
        19 knots of other runs do not count: tie 0 1 1; tie 2 1 7; tie 4 1 2; run 1 3 = 7
        """;

    private static final String SPLITS = """
        20 a run too small: rope 1; splits {-1 MIN} = UNKNOWN
        20 a run too large: rope 1.1; splits {2 20 MAX} = UNKNOWN
        20 no run on an empty rope: splits 0 = UNKNOWN
        20 no words, no way: rope 1; splits 0 = 0
        20 a run that is a word is one way: taught 12 1; rope 12; splits 0 = 1
        20 a run that is a word and two words is two ways: taught {1 2 12} 1; rope 12; splits 0 = 2
        20 a word behind another: taught {1 12} 1; rope 121; splits 0 = 1
        20 the last knot is left: taught 12 1; rope 1212.123; splits 0 = 1; splits 1 = 0
        20 the first knot is left: taught 12 1; rope 312; splits 0 = 0
        20 a knot in the middle is left: taught 12 1; rope 12312; splits 0 = 0
        20 a word does not reach over a place between: taught 12 1; rope 1.2; splits {0 1} = 0
        20 the longest and the last word serve: sixteen 1; undo; taught 54321 1;
            rope 54321; splits 0 = 3
        20 the last of 20 runs: taught 1 1; rope 1.*19+1; splits 19 = 1; splits 20 = UNKNOWN
        20 40 knots in one way: taught 1 1; rope 1*40; splits 0 = 1
        20 9998 is told: taught {1 111 112 12 2 21} 1; rope 111111111211111121211111; splits 0 = 9998
        20 9999 is told: taught {1 11 111 12 1222 2 2111} 1; rope 112111111112221111212111;
            splits 0 = 9999
        20 10000 is bounded: taught {1 11 111 1222 2 21 22} 1; rope 1121111111121211111; splits 0 = 9999
        20 each step is bounded: taught {1 11 111 1111 11111} 1; rope 1*40; splits 0 = 9999
        20 a bounded step may still come to nothing: taught {1 11 111 1111 11111} 1;
            rope 1*39+2; splits 0 = 0; rope 2+1*39; splits 0 = 0
        """;

    /** The same is told in another way, so that the same is due. */
    private static final String SPLITS_BACK =
        SPLITS.replaceAll("(?m)^20 ", "21 ").replace(" splits ", " splitsBack ");

    private static final String NEAREST = """
        22 a run too small: taught 1 1; rope 1; nearest {-1 MIN} 0 = UNKNOWN
        22 a run too large: taught 1 1; rope 1.1; nearest {2 20 MAX} 0 = UNKNOWN
        22 no run on an empty rope: taught 1 1; nearest 0 {0 1} = UNKNOWN
        22 what is too small: taught 1 1; rope 1; nearest 0 {-1 MIN} = BAD_VALUE
        22 what is too large: taught 1 1; rope 1; nearest 0 {2 3 MAX} = BAD_VALUE
        22 the run is looked at ahead of what: taught 1 1; rope 1; nearest {-1 1} {-1 2} = UNKNOWN
        22 no word: rope 1; nearest 0 {0 1} = NONE
        22 the run is looked at ahead of no word: rope 1; nearest {-1 1} {0 1} = UNKNOWN
        22 what is looked at ahead of no word: rope 1; nearest 0 {-1 2} = BAD_VALUE
        22 none differs: taught {1 12} 1; rope 12; nearest 0 0 = 1; nearest 0 1 = 0
        22 of several the lowest: taught {3 1 2} 1; rope 4; nearest 0 0 = 0; nearest 0 1 = 1
        22 of several nearest the lowest, not the first of all: taught {333 12 13} 1; rope 14;
            nearest 0 0 = 1; nearest 0 1 = 1
        22 the last word: sixteen 1; rope 31; nearest 0 0 = 15; nearest 0 1 = 0
        22 places of the run alone count: taught 1 1; rope 111; nearest 0 1 = 2
        22 places of the word alone count: taught 12345 1; rope 1; nearest 0 1 = 4
        22 both may differ and be longer: taught 2 1; rope 111; nearest 0 1 = 3
        22 a shorter word that fits is nearer than one of the length: taught {222 1} 1; rope 111;
            nearest 0 0 = 1; nearest 0 1 = 2
        22 places are compared from above: taught 12 1; rope 312; nearest 0 1 = 3
        22 the most that differ are 40: taught 2 1; rope 1*40; nearest 0 0 = 0; nearest 0 1 = 40
        22 knots of the next run do not count: taught 123 1; rope 1.3; nearest 0 1 = 2
        22 the last of 20 runs: taught {1 2} 1; rope 1.*19+2; nearest 19 0 = 1; nearest 18 0 = 0
        """;

    private static final String WORD = """
        23 the first word is 0: taught {123 1} 7; word 0 0 = 3
        23 the last word is 15: sixteen 7; word 15 4 = 3; word 15 1 = 7; word 16 0 = UNKNOWN
        23 a word too small: taught 1 1; word {-1 MIN} 0 = UNKNOWN
        23 a word too large: taught 1 1; word {1 15 16 MAX} 0 = UNKNOWN
        23 no word is taught: word 0 {0 1 2 3 4 8} = UNKNOWN
        23 what is too small: taught 1 1; word 0 {-1 MIN} = BAD_VALUE
        23 what is too large: taught 1 1; word 0 {9 10 MAX} = BAD_VALUE
        23 the word is looked at ahead of what: taught 1 1; word {-1 1} {-1 9} = UNKNOWN
        23 the shortest pattern: taught 5 1; word 0 0 = 1; word 0 4 = 5; word 0 {5 6 7 8} = 0
        23 the longest pattern: taught 12345 1; word 0 0 = 5; word 0 4 = 1; word 0 5 = 2; word 0 6 = 3;
            word 0 7 = 4; word 0 8 = 5
        23 behind the end of a pattern: taught 12 1; word 0 5 = 2; word 0 {6 7 8} = 0
        23 the least and the most rings: taught 1 1; taught 2 9; word 0 1 = 1; word 1 1 = 9
        23 no run is this word: taught {1 2 12} 1; rope 12; word {0 1} 2 = 0; word 2 2 = 1
        23 20 runs are this word: taught 1 1; rope 1.*19+1; word 0 2 = 20
        23 nobody knows it: taught 1 1; word 0 3 = 0
        23 the first learner is the first of the set: taught 1 1; times 2 tell 0 0; word 0 3 = 1
        23 the last learner is the last of the set: taught 1 1; times 2 tell 5 0; word 0 3 = 32
        23 all know it: taught 1 1; rope 1; times 2 ring; word 0 3 = 63
        """;

    private static final String LEARNER = """
        24 the first learner is 0: taught 1 1; times 2 tell 0 0; learner 0 0 = 1; learner {1 5} 0 = 0
        24 the last learner is 5: taught 1 1; times 2 tell 5 0; learner 5 0 = 1; learner {0 4} 0 = 0
        24 a learner too small: learner {-1 MIN} {0 1 2 3} = UNKNOWN
        24 a learner too large: learner {6 7 MAX} {0 1 2 3} = UNKNOWN
        24 what is too small: learner 0 {-1 MIN} = BAD_VALUE
        24 what is too large: learner 0 {4 5 MAX} = BAD_VALUE
        24 the learner is looked at ahead of what: learner {-1 6} {-1 4} = UNKNOWN
        24 no word is known: taught 1 1; tell 0 0; learner 0 0 = 0
        24 the first word is the first of the set: taught {1 2} 1; times 2 tell 0 0; learner 0 0 = 1
        24 the last word is the last of the set: sixteen 1; times 2 tell 0 15; learner 0 0 = 32768
        24 all 16 words are known: sixteen 1; set 1;
            tell 0 {0 1 2 3 4 5 6 7 8 9 10 11 12 13 14 15}; learner 0 0 = 65535
        24 no answer on an empty rope: taught 1 1; times 2 tell 0 0; learner 0 1 = 0
        24 no answer to words that he does not know: taught 1 9; rope 1; tell 0 0; learner 0 1 = 0
        24 the answer is of the words that he knows alone: taught 1 3; taught 2 4; rope 1.2;
            times 2 tell 0 1; learner 0 1 = 4
        24 the answer is of each run: taught 1 9; rope 1.*19+1; times 2 tell 0 0; learner 0 1 = 180
        24 the answer is of runs that are words alone: taught {1 2} 3; rope 12.1.11; times 2 tell 0 0;
            learner 0 1 = 3
        24 right and wrong answers: taught 1 1; rope 1; times 5 ring; learner 5 2 = 3; learner 5 3 = 2
        """;

    private static final String HEARD = """
        25 the first learner is 0: taught 1 1; tell 0 0; heard 0 0 = 1; heard 1 0 = 0
        25 the last learner is 5: taught 1 1; tell 5 0; heard 5 0 = 1; heard 4 0 = 0
        25 a learner too small: taught 1 1; heard {-1 MIN} 0 = UNKNOWN
        25 a learner too large: taught 1 1; heard {6 7 MAX} 0 = UNKNOWN
        25 the first word is 0: taught {1 2} 1; tell 0 0; heard 0 0 = 1; heard 0 1 = 0
        25 the last word is 15: sixteen 1; tell 5 15;
            heard 5 15 = 1; heard 5 14 = 0; heard 4 15 = 0; heard 5 16 = UNKNOWN
        25 a word too small: taught 1 1; heard 0 {-1 MIN} = UNKNOWN
        25 a word too large: taught 1 1; heard 0 {1 16 MAX} = UNKNOWN
        25 no word is taught: heard 0 0 = UNKNOWN
        25 never heard is 0, not NONE: taught 1 1; heard 0 0 = 0
        25 above 999: taught 1 1; rope 1.*19+1; times 51 ring; heard 0 0 = 1020
        """;

    private static final String REASON = """
        26 a learner too small: taught 1 1; rope 1; reason {-1 MIN} = UNKNOWN
        26 a learner too large: taught 1 1; rope 1; reason {6 7 MAX} = UNKNOWN
        26 the learner is looked at ahead of no word: reason {-1 6} = UNKNOWN
        26 no run on an empty rope: taught 1 1; reason {0 5} = NONE
        26 no run is a word: taught {1 2} 1; rope 12; reason {0 5} = NONE
        26 the first run of all: taught 1 1; rope 1; reason {0 5} = 100
        26 the last of 20 runs: taught {1 2} 1; rope 1.*19+2; times 2 tell 0 0; reason 0 = 119
        26 runs that are no words are numbered too: taught 1 1; rope 3.22.1; reason 0 = 102
        26 the first of several: taught {1 2} 1; rope 1.2.2; times 2 tell 0 0; reason 0 = 101
        26 he would answer right: taught 1 1; rope 1; times 2 tell 0 0; reason 0 = 0; reason 1 = 100
        26 once less than the setting is wrong: taught 1 1; rope 1; set 9; times 8 tell 5 0;
            reason 5 = 100; tell 5 0; reason 5 = 0
        26 a word not on the rope is no reason: taught {1 2} 1; rope 1; times 2 tell 0 0; reason 0 = 0
        """;

    private static final String IF_PULLED = """
        27 a strength too small: rope 1; ifPulled {0 -1 MIN} {0 1 2 3} = BAD_VALUE
        27 a strength too large: rope 1; ifPulled {10 11 MAX} {0 1 2 3} = BAD_VALUE
        27 what is too small: rope 1; ifPulled 1 {-1 MIN} = BAD_VALUE
        27 what is too large: rope 1; ifPulled 9 {4 5 MAX} = BAD_VALUE
        27 none slips with strength 1: taught 1 3; tie 0 1 1; ifPulled 1 0 = 0; ifPulled 1 {1 2} = 1;
            ifPulled 1 3 = 3
        27 a tightness as the strength does not slip: rope 1; ifPulled 5 0 = 0; ifPulled 6 0 = 1
        27 tightness 9 never slips: rope 1!; ifPulled 9 0 = 0
        27 none slips from the last place: tie 39 1 1; ifPulled 9 0 = 0; ifPulled 9 1 = 1
        27 nothing on an empty rope: ifPulled {1 9} {0 1 2 3} = 0
        27 on a full rope none slips: rope 1*40; ifPulled 9 0 = 0; ifPulled 9 1 = 1
        27 39 slip on a rope with one place free: rope 1*39; ifPulled 9 0 = 39
        27 a run parts: taught {1 2} 3; rope 1!2; ifPulled 5 1 = 1; ifPulled 6 1 = 2; ifPulled 5 2 = 0;
            ifPulled 6 2 = 2; ifPulled 6 3 = 6
        27 two runs merge: taught 12 7; rope 1.2!; ifPulled 5 1 = 2; ifPulled 6 1 = 1;
            ifPulled 5 2 = 0; ifPulled 6 2 = 1; ifPulled 6 3 = 7
        27 no pull is counted: rope 1; ifPulled 9 0 = 1; count {5 6} = 0; kinds 1
        27 the right answer is as of the rope, not of who knows: taught 1 9; rope 1.*19+1;
            ifPulled 9 3 = 180
        """;

    private static final String SAFE_PULL = """
        28 an empty rope is always as it is: safePull = 9
        28 no words, so that none is lost: rope 1!2; safePull = 9
        28 runs that are no words may differ: taught 5 1; rope 1!2.3; safePull = 9
        28 places may differ: taught 12 1; rope 12.12; safePull = 9
        28 with 1 it always serves: taught 12 1; tie 0 1 9; tie 1 2 1; safePull = 1
        28 the weakest pull that does not serve is 9: taught 12 1; tie 0 1 9; tie 1 2 8; safePull = 8
        28 also if a weaker one does not serve: taught 12 1; tie 0 1 4; tie 1 2 2; ifPulled {3 4} 2 = 0;
            safePull = 9
        28 also if only one stronger one serves: taught 12 1; tie 0 1 8; tie 1 2 1;
            ifPulled {2 8} 2 = 0; safePull = 9
        28 also if stronger and weaker ones do not serve: taught 12 1; tie 0 1 4; tie 1 2 2;
            tie 10 1 9; tie 11 2 7; ifPulled {3 4 8 9} 2 = 1; ifPulled {5 7} 2 = 2; safePull = 7
        28 a word is lost: taught {1 2} 1; rope 1.2!; safePull = 5
        28 a word comes to none: taught {1 2 3} 1; rope 1!2; safePull = 5
        28 a word comes behind all: taught {1 3} 1; rope 1!.3!2; safePull = 5
        28 a word comes ahead of all: taught {1 3} 1; rope 1!2.3!; safePull = 5
        28 as many words, but another: taught {1 2} 1; rope 1.3!.5!2; safePull = 5
        28 the same words in another order: taught {1 2} 1; rope 1.3!.2!.3!1; safePull = 5
        28 the same word at other runs is the same: taught 1 1; rope 1.3!.3!1; safePull = 9
        28 it is no pull: rope 1; safePull = 9; count {5 6} = 0; kinds 1
        """;

    private static final String ALL_RIGHT_IN = """
        29 no run on an empty rope: taught 1 1; allRightIn = NONE
        29 no run is a word: taught {1 2} 1; rope 12; allRightIn = NONE
        29 all answer right now: taught 1 1; rope 1; times 2 ring; allRightIn = 0
        29 one more ring: taught 1 1; rope 1; ring; allRightIn = 1
        29 the most rings are 9: taught 1 1; rope 1; set 9; allRightIn = 9
        29 the least setting: taught 1 1; rope 1; set 1; allRightIn = 1
        29 20 runs at once: taught 1 1; rope 1.*19+1; set 9; allRightIn = 1
        29 a part of a ring is a ring: taught 1 1; rope 1.1; set 3; allRightIn = 2
        29 no part of a ring is left: taught 1 1; rope 1.1; set 4; allRightIn = 2
        29 the word that takes longest: taught {1 2} 1; rope 1.2.2; set 6; allRightIn = 6
        29 the word that takes longest is the last: taught {1 2} 1; rope 1.1.2; set 6; allRightIn = 6
        29 the learner who takes longest is the first: taught 1 1; rope 1; times 2 ring; forget 0 0;
            allRightIn = 2
        29 the learner who takes longest is the last: taught 1 1; rope 1; times 2 ring; forget 5 0;
            allRightIn = 2
        29 one learner alone does not help: taught 1 1; rope 1; times 2 tell 0 0; allRightIn = 2
        29 a word not on the rope does not count: taught {1 2} 1; rope 1; times 2 ring; allRightIn = 0
        29 what is heard more often than needed: taught {1 2} 1; rope 1; times 9 ring; rope 1.2;
            allRightIn = 2
        29 it rings nothing: taught 1 1; rope 1; allRightIn = 2; count 7 = 0; heard 0 0 = 0
        """;

    private static final String COUNT = """
        30 what is too small: count {-1 MIN} = BAD_VALUE
        30 what is too large: count {13 14 MAX} = BAD_VALUE
        30 knots of an empty and of a full rope: count 0 = 0; rope 1*40; count 0 = 40
        30 runs of an empty rope and the most: count 1 = 0; rope 1.*19+1; count 1 = 20
        30 runs that are words, none and the most: taught 1 1; rope 11; count 2 = 0; rope 1.*19+1;
            count 2 = 20
        30 the least and the greatest right answer: taught 1 9; count 3 = 0; rope 1.*19+1; count 3 = 180
        30 no words and 16: count 4 = 0; sixteen 1; count 4 = 16
        30 pulls, but none with which no knot slips: rope 1; count 5 = 0; pull 9; pull 5 = NONE;
            pull 9; count 5 = 2
        30 slips of all knots: rope 1.2; count 6 = 0; pull 9; count 6 = 2; pull 9; count 6 = 4
        30 rings of the rope, but none without a word: taught 1 1; ring = NONE; rope 1; times 2 ring;
            rope 2; ring = NONE; count 7 = 2
        30 right answers of all learners: taught 1 1; rope 1; times 2 ring; count 8 = 0; ring;
            count 8 = 6
        30 wrong answers of all learners: taught 1 1; rope 1; count 9 = 0; ring; count 9 = 6
        30 answers of some learners: taught 1 1; rope 1; times 2 tell {0 5} 0; ring = 2; count 8 = 2;
            count 9 = 4
        30 the least and the greatest setting: set 1; count 10 = 1; set 9; count 10 = 9
        30 states, none and the most: count 11 = 0; tie {0 2 4} 1 1; count 11 = 3; tie 6 1 1;
            count 11 = 4; tie 8 1 1; count 11 = 4
        30 the shortest and the longest text: count 12 = 0; times 50 type 1; count 12 = 50;
            type 1 = FULL; count 12 = 50
        """;

    private static final String[] TABLES = {
        NEW_OBJECT, TIE, UNTIE, PULL, LAY_ROPE, TEACH, SET_RINGS, RING, FORGET, TELL, SET, TYPE,
        CLEAR_TEXT, FAULT, UNDO, KEEP, RESTORE, KNOT, RUN, SPLITS, SPLITS_BACK, NEAREST, WORD, LEARNER, HEARD,
        REASON, IF_PULLED, SAFE_PULL, ALL_RIGHT_IN, COUNT
    };

    private static final Check check = new Check("BoundaryTests");
    private static final Set<String> titles = new TreeSet<>();
    private static final Set<Integer> promises = new TreeSet<>();

    private BoundaryTests() {
    }

    public static void main(String[] args) {
        for (String table : TABLES) {
            // A row goes on in lines that begin with a space.
            for (String row : table.replaceAll("\n +", " ").split("\n")) {
                test(row);
            }
        }
        check.due("promises with a test", promises.size(), PROMISES);
        check.finish();
    }

    private static void test(String row) {
        int space = row.indexOf(' ');
        int colon = row.indexOf(": ");
        String title = "promise " + row.substring(0, colon);
        check.holds(title + " stands once", titles.add(title));
        promises.add(Integer.parseInt(row.substring(0, space)));
        new Script(row.substring(colon + 2)).run(check, title);
    }
}
