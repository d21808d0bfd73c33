import java.util.Arrays;
import java.util.function.Supplier;
import java.util.function.ToIntFunction;

/** What the tests share: answers that are due, objects in a state, all that an object tells of itself. */
abstract class Checks {
    static final int NONE = -1, UNKNOWN = -101, OUTSIDE = -102, STATE = -103, FULL = -104;
    static final int LOW = Integer.MIN_VALUE, HIGH = Integer.MAX_VALUE;
    static final int GOAL = 5;
    static final int FIRST_KNOWN = 10;
    static final int ALL_KNOWN = 8;

    private static int wrong = 0;
    private static int checked = 0;
    private static String sentence = "";

    /** The sentence of the document that the checks behind this are about. */
    static void sentence(String words) {
        sentence = words;
    }

    static void due(String call, long got, long want) {
        checked++;
        if (got != want) {
            wrong++;
            System.out.println(sentence + ": " + call + " answered " + got + ", due is " + want);
        }
    }

    static void end() {
        System.out.println(checked + " answers, " + wrong + " of them not as due");
        if (wrong != 0 || checked == 0) {
            System.exit(1);
        }
    }

    // ---- objects in a state

    static CountedTrials write(CountedTrials x, String text) {
        for (int i = 0; i < text.length(); i++) {
            x.letter(text.charAt(i));
        }
        return x;
    }

    static CountedTrials page(String text) {
        return write(new CountedTrials(), text);
    }

    static CountedTrials read(String text) {
        CountedTrials x = page(text);
        due("roads() of " + text, x.roads(), text.split(",").length);
        return x;
    }

    static CountedTrials readWith(String text, int pilgrims) {
        CountedTrials x = read(text);
        for (int i = 0; i < pilgrims; i++) {
            due("pilgrim()", x.pilgrim(), i);
        }
        return x;
    }

    static void walk(CountedTrials x, int pilgrim, int... roads) {
        for (int road : roads) {
            int answer = x.walk(pilgrim, road);
            due("walk(" + pilgrim + ", " + road + ") that is no refusal", answer >= 0 ? 1 : answer, 1);
        }
    }

    /**
     * He is hurt by so much more (2 at least) and where he was: an even number of
     * walks, the road's harm being set for each and put back in the end.
     */
    static void hurt(CountedTrials x, int pilgrim, int road, int byHowMuch) {
        int harm = x.road(road, 3);
        int left = byHowMuch;
        while (left > 0) {
            int both = left <= 18 ? left : 16;
            x.worsen(road, both / 2);
            walk(x, pilgrim, road);
            x.worsen(road, both - both / 2);
            walk(x, pilgrim, road);
            left -= both;
        }
        x.worsen(road, harm);
    }

    static void log(CountedTrials x, int... places) {
        for (int place : places) {
            x.log(place);
        }
    }

    // ---- what is told

    static void roadIs(CountedTrials x, int road, int... told) {
        for (int what = 0; what < told.length; what++) {
            due("road(" + road + ", " + what + ")", x.road(road, what), told[what]);
        }
    }

    static void aboutIs(CountedTrials x, int pilgrim, int... told) {
        for (int what = 0; what < told.length; what++) {
            due("about(" + pilgrim + ", " + what + ")", x.about(pilgrim, what), told[what]);
        }
    }

    /** By what harm the trials counted last; of the roads that are not named: never. */
    static void knownIs(CountedTrials x, int pilgrim, int... known) {
        for (int road = 0; road < ALL_KNOWN; road++) {
            int what = FIRST_KNOWN + road;
            due("about(" + pilgrim + ", " + what + ")", x.about(pilgrim, what), road < known.length ? known[road] : 0);
        }
    }

    static void countIs(CountedTrials x, int... told) {
        for (int what = 0; what < told.length; what++) {
            due("count(" + what + ")", x.count(what), told[what]);
        }
    }

    /** All that road(), about(), count(), fault() and digest() tell. */
    static long[] allTold(CountedTrials x) {
        long[] told = new long[8 * 6 + 4 * 13 + 9 + 2];
        int at = 0;
        int roads = x.count(0);
        int pilgrims = x.count(2);
        for (int road = 0; road < roads; road++) {
            for (int what = 0; what <= 5; what++) {
                told[at++] = x.road(road, what);
            }
        }
        for (int pilgrim = 0; pilgrim < pilgrims; pilgrim++) {
            for (int what = 0; what <= 17; what++) {
                if (what <= 4 || what >= FIRST_KNOWN) {
                    told[at++] = x.about(pilgrim, what);
                }
            }
        }
        for (int what = 0; what <= 8; what++) {
            told[at++] = x.count(what);
        }
        told[at++] = x.fault();
        told[at++] = x.digest();
        return Arrays.copyOf(told, at);
    }

    static void same(String call, long[] got, long[] want) {
        due(call + ": how many numbers are told", got.length, want.length);
        for (int i = 0; i < got.length && i < want.length; i++) {
            due(call + ": number " + i + " of what is told", got[i], want[i]);
        }
    }

    /**
     * The call is refused so, and changes nothing: what the object tells is as
     * before, and so is what a twin without that call tells behind restore().
     */
    static void refused(Supplier<CountedTrials> made, String call, ToIntFunction<CountedTrials> by, int want) {
        CountedTrials x = made.get();
        long[] before = allTold(x);
        due(call, by.applyAsInt(x), want);
        same("behind " + call, allTold(x), before);
        CountedTrials twin = made.get();
        due("restore() behind " + call, x.restore(), twin.restore());
        same("restored behind " + call, allTold(x), allTold(twin));
    }
}
