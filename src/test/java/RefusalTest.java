import java.util.function.Supplier;
import java.util.function.ToIntFunction;

/**
 * Each refusal of each call, the first as told where several hold at once, in an
 * object that is full, in one that is half full and in a new one; and that a refused
 * call changes nothing: what count(), about(), road(), fault() and digest() tell is as
 * before, and so is the IMAGE.
 */
public final class RefusalTest extends Checks {
    private static final int[] NO_NUMBER = {LOW, -104, -1, 8, HIGH};
    private static Supplier<CountedTrials> state = CountedTrials::new;

    public static void main(String[] args) {
        newObject();
        logAlone();
        halfFull();
        full();
        hurtToTheBrim();
        unfinishedPages();
        end();
    }

    private static void refuse(String call, ToIntFunction<CountedTrials> by, int want) {
        refused(state, call, by, want);
    }

    // ---- a new object: no ROADS

    private static void newObject() {
        sentence("refusals of a new object");
        state = CountedTrials::new;
        noRoadsAtAll();
        refuse("roads()", x -> x.roads(), STATE);
    }

    private static void logAlone() {
        sentence("refusals of a LOG and a page without ROADS");
        state = () -> {
            CountedTrials x = page("02:05");
            log(x, 0, 1, 2, 3, 4, 5, NONE);
            return x;
        };
        noRoadsAtAll();
        refuse("roads()", x -> x.roads(), STATE);
        refuse("log(0)", x -> x.log(0), FULL);
        refuse("log(-1)", x -> x.log(NONE), FULL);
        refuse("log(6)", x -> x.log(6), UNKNOWN);
    }

    private static void noRoadsAtAll() {
        for (int n : new int[] {LOW, -1, 0, 1, HIGH}) {
            refuse("road(" + n + ", 0)", x -> x.road(n, 0), UNKNOWN);
            refuse("road(" + n + ", 6)", x -> x.road(n, 6), UNKNOWN);
            refuse("as(" + n + ", 0)", x -> x.as(n, 0), UNKNOWN);
            refuse("as(" + n + ", 5)", x -> x.as(n, 5), UNKNOWN);
            refuse("worsen(" + n + ", 1)", x -> x.worsen(n, 1), UNKNOWN);
            refuse("worsen(" + n + ", 0)", x -> x.worsen(n, 0), UNKNOWN);
            refuse("licence(" + n + ", false)", x -> x.licence(n, false), UNKNOWN);
            noSuchPilgrim(n);
        }
        refuse("pilgrim()", x -> x.pilgrim(), STATE);
        refuse("walks()", x -> x.walks(), STATE);
        refuse("walksBy(0)", x -> x.walksBy(0), STATE);
        refuse("walksBy(60)", x -> x.walksBy(60), STATE);
        refuse("last()", x -> x.last(), STATE);
        refuse("months(1, 0, 0)", x -> x.months(1, 0, 0), STATE);
        refuse("months(60, HIGH, 3)", x -> x.months(60, HIGH, 3), STATE);
        refuse("image()", x -> x.image(), STATE);
        refuse("restore()", x -> x.restore(), STATE);
        alwaysOutside();
    }

    /** UNKNOWN, whatever else is wrong. */
    private static void noSuchPilgrim(int n) {
        for (int what : new int[] {LOW, -1, 0, 5, 18}) {
            refuse("about(" + n + ", " + what + ")", x -> x.about(n, what), UNKNOWN);
        }
        for (int road : new int[] {-1, 0, 8}) {
            refuse("walk(" + n + ", " + road + ")", x -> x.walk(n, road), UNKNOWN);
            refuse("together(" + n + ", 0, " + road + ")", x -> x.together(n, 0, road), UNKNOWN);
            refuse("together(0, " + n + ", " + road + ")", x -> x.together(0, n, road), UNKNOWN);
            refuse("together(" + n + ", " + n + ", " + road + ")", x -> x.together(n, n, road), UNKNOWN);
        }
        refuse("rest(" + n + ")", x -> x.rest(n), UNKNOWN);
        refuse("enter(" + n + ")", x -> x.enter(n), UNKNOWN);
        refuse("way(" + n + ", 0)", x -> x.way(n, 0), UNKNOWN);
        refuse("way(" + n + ", 3)", x -> x.way(n, 3), UNKNOWN);
        refuse("bars(" + n + ")", x -> x.bars(n), UNKNOWN);
        refuse("most(" + n + ", 0)", x -> x.most(n, 0), UNKNOWN);
        refuse("most(" + n + ", 61)", x -> x.most(n, 61), UNKNOWN);
        refuse("bridge(" + n + ")", x -> x.bridge(n), UNKNOWN);
    }

    /** OUTSIDE, whatever else is wrong. */
    private static void alwaysOutside() {
        for (int code : new int[] {LOW, -1, 0, 127, HIGH}) {
            refuse("letter(" + code + ")", x -> x.letter(code), OUTSIDE);
        }
        for (int halves : new int[] {LOW, -1, 61, HIGH}) {
            refuse("walksBy(" + halves + ")", x -> x.walksBy(halves), OUTSIDE);
            refuse("months(" + halves + ", 0, 0)", x -> x.months(halves, 0, 0), OUTSIDE);
        }
        refuse("months(0, 0, 0)", x -> x.months(0, 0, 0), OUTSIDE);
        refuse("months(1, -1, 0)", x -> x.months(1, -1, 0), OUTSIDE);
        refuse("months(1, LOW, 0)", x -> x.months(1, LOW, 0), OUTSIDE);
        refuse("months(0, -1, 4)", x -> x.months(0, -1, 4), OUTSIDE);
        for (int what : new int[] {LOW, -1, 4, HIGH}) {
            refuse("months(1, 0, " + what + ")", x -> x.months(1, 0, what), OUTSIDE);
        }
        for (int what : new int[] {LOW, -1, 9, HIGH}) {
            refuse("count(" + what + ")", x -> x.count(what), OUTSIDE);
        }
        for (int place : new int[] {LOW, -2, 6, HIGH}) {
            refuse("log(" + place + ")", x -> x.log(place), UNKNOWN);
        }
    }

    // ---- three ROADS, three PILGRIMS: 0 LET IN, 1 at PLACE 1, 2 at PLACE 0

    private static CountedTrials someOfAll() {
        CountedTrials x = readWith("02:051,g012,f121", 2);
        walk(x, 0, 0);
        walk(x, 1, 1);
        log(x, 5, NONE);
        x.image();
        due("enter(0)", x.enter(0), 0);
        x.licence(1, false);
        x.worsen(2, 7);
        x.pilgrim();
        x.way(1, 0);
        write(x, "02:051,");
        return x;
    }

    private static void halfFull() {
        sentence("refusals of an object with something of all");
        state = RefusalTest::someOfAll;
        alwaysOutside();
        wrongNumbersOfRoads(3);
        for (int n : new int[] {LOW, -1, 3, 4, HIGH}) {
            noSuchPilgrim(n);
        }
        wrongRoadsFor(0, 1, 3);
        wrongWhatsOf(0);
        wrongWhatsOf(1);
        letIn(0, 1);
        refuse("roads()", x -> x.roads(), STATE);
        refuse("walk(1, 0): not at an end", x -> x.walk(1, 0), STATE);
        refuse("walk(2, 2): not at an end", x -> x.walk(2, 2), STATE);
        refuse("together(1, 2, 1): not in the same PLACE", x -> x.together(1, 2, 1), STATE);
        refuse("together(2, 1, 0): one not at an end", x -> x.together(2, 1, 0), STATE);
        refuse("together(2, 1, 2): one not at an end", x -> x.together(2, 1, 2), STATE);
        refuse("enter(1): not at the GOAL", x -> x.enter(1), STATE);
        refuse("enter(2): not at the GOAL", x -> x.enter(2), STATE);
    }

    private static void wrongNumbersOfRoads(int roads) {
        for (int n : new int[] {LOW, -1, roads, HIGH}) {
            for (int what : new int[] {-1, 0, 6}) {
                refuse("road(" + n + ", " + what + ")", x -> x.road(n, what), UNKNOWN);
                refuse("as(" + n + ", " + what + ")", x -> x.as(n, what), UNKNOWN);
                refuse("worsen(" + n + ", " + what + ")", x -> x.worsen(n, what), UNKNOWN);
            }
            refuse("worsen(" + n + ", 10)", x -> x.worsen(n, 10), UNKNOWN);
            refuse("licence(" + n + ", true)", x -> x.licence(n, true), UNKNOWN);
            refuse("licence(" + n + ", false)", x -> x.licence(n, false), UNKNOWN);
        }
        for (int n : new int[] {LOW, -1, HIGH}) {
            refuse("road(0, " + n + ")", x -> x.road(0, n), OUTSIDE);
            refuse("as(0, " + n + ")", x -> x.as(0, n), OUTSIDE);
            refuse("worsen(0, " + n + ")", x -> x.worsen(0, n), OUTSIDE);
        }
        refuse("road(0, 6)", x -> x.road(0, 6), OUTSIDE);
        refuse("as(0, 5)", x -> x.as(0, 5), OUTSIDE);
        refuse("worsen(0, 0)", x -> x.worsen(0, 0), OUTSIDE);
        refuse("worsen(0, 10)", x -> x.worsen(0, 10), OUTSIDE);
    }

    /** UNKNOWN: road is told ahead of STATE: one is LET IN, the other is elsewhere. */
    private static void wrongRoadsFor(int letIn, int other, int roads) {
        for (int road : new int[] {LOW, -1, roads, HIGH}) {
            refuse("walk(" + letIn + ", " + road + ")", x -> x.walk(letIn, road), UNKNOWN);
            refuse("walk(" + other + ", " + road + ")", x -> x.walk(other, road), UNKNOWN);
            refuse("together(" + letIn + ", " + other + ", " + road + ")",
                x -> x.together(letIn, other, road), UNKNOWN);
            refuse("together(" + other + ", " + letIn + ", " + road + ")",
                x -> x.together(other, letIn, road), UNKNOWN);
        }
        for (int same : new int[] {letIn, other}) {
            refuse("together(" + same + ", " + same + ", 0)", x -> x.together(same, same, 0), UNKNOWN);
            refuse("together(" + same + ", " + same + ", -1)", x -> x.together(same, same, -1), UNKNOWN);
        }
    }

    /** OUTSIDE is told ahead of STATE, of who is LET IN too. */
    private static void wrongWhatsOf(int pilgrim) {
        String of = "(" + pilgrim + ", ";
        for (int what : new int[] {LOW, -1, 5, 9, 18, HIGH}) {
            refuse("about" + of + what + ")", x -> x.about(pilgrim, what), OUTSIDE);
        }
        for (int what : new int[] {LOW, -1, 3, HIGH}) {
            refuse("way" + of + what + ")", x -> x.way(pilgrim, what), OUTSIDE);
        }
        for (int harm : new int[] {LOW, -1, 61, HIGH}) {
            refuse("most" + of + harm + ")", x -> x.most(pilgrim, harm), OUTSIDE);
        }
    }

    private static void letIn(int who, int other) {
        refuse("walk, LET IN", x -> x.walk(who, 0), STATE);
        refuse("walk, LET IN and not at an end", x -> x.walk(who, 2), STATE);
        refuse("together, the first LET IN", x -> x.together(who, other, 0), STATE);
        refuse("together, the second LET IN", x -> x.together(other, who, 1), STATE);
        refuse("rest, LET IN", x -> x.rest(who), STATE);
        refuse("enter, LET IN", x -> x.enter(who), STATE);
        for (int what = 0; what <= 2; what++) {
            int asked = what;
            refuse("way, LET IN", x -> x.way(who, asked), STATE);
        }
        refuse("bars, LET IN", x -> x.bars(who), STATE);
        refuse("most, LET IN", x -> x.most(who, 0), STATE);
        refuse("most, LET IN", x -> x.most(who, 60), STATE);
        refuse("bridge, LET IN", x -> x.bridge(who), STATE);
    }

    // ---- eight ROADS, four PILGRIMS, 44 letters, seven MONTHS of the LOG, 24 times

    private static CountedTrials allFull() {
        CountedTrials x = readWith("04:d051,g012,f121,b231,341,452,013,g029", 4);
        walk(x, 0, 0);
        walk(x, 1, 1);
        walk(x, 2, 1);
        x.together(1, 2, 2);
        log(x, 1, NONE, 3, NONE, NONE, NONE, 0);
        x.image();
        due("enter(0)", x.enter(0), 0);
        x.licence(1, false);
        x.worsen(7, 8);
        for (int i = 0; i < 24; i++) {
            due("bars(3)", x.bars(3), 0);
        }
        write(x, "04:d051,g012,f121,b231,341,452,013,g029,,,,,,");
        due("count(6)", x.count(6), 44);
        return x;
    }

    private static void full() {
        sentence("refusals of an object that is full");
        state = RefusalTest::allFull;
        alwaysOutside();
        wrongNumbersOfRoads(8);
        for (int n : NO_NUMBER) {
            noSuchPilgrim(n);
        }
        noSuchPilgrim(4);
        wrongRoadsFor(0, 3, 8);
        wrongWhatsOf(0);
        wrongWhatsOf(3);
        letIn(0, 3);
        for (int code : new int[] {1, 44, 48, 126}) {
            refuse("letter(" + code + ")", x -> x.letter(code), FULL);
        }
        for (int place = -1; place <= 5; place++) {
            int told = place;
            refuse("log(" + place + ")", x -> x.log(told), FULL);
        }
        refuse("pilgrim()", x -> x.pilgrim(), FULL);
        refuse("roads()", x -> x.roads(), STATE);
        for (int pilgrim = 0; pilgrim < 4; pilgrim++) {
            int asked = pilgrim;
            refuse("way, the 25th", x -> x.way(asked, 0), STATE);
            refuse("bars, the 25th", x -> x.bars(asked), STATE);
            refuse("most, the 25th", x -> x.most(asked, 60), STATE);
            refuse("bridge, the 25th", x -> x.bridge(asked), STATE);
        }
    }

    // ---- HURT 99

    private static CountedTrials oneTired() {
        CountedTrials x = readWith("60:051,f011", 3);
        hurt(x, 1, 1, 99);
        x.image();
        return x;
    }

    private static void hurtToTheBrim() {
        sentence("refusals of who MAY not, by HURT");
        state = RefusalTest::oneTired;
        refuse("walk(1, 0)", x -> x.walk(1, 0), STATE);
        refuse("walk(1, 1)", x -> x.walk(1, 1), STATE);
        refuse("together(0, 1, 0)", x -> x.together(0, 1, 0), STATE);
        refuse("together(1, 0, 0)", x -> x.together(1, 0, 0), STATE);
        refuse("together(2, 1, 1)", x -> x.together(2, 1, 1), STATE);
        refuse("walk(1, 2)", x -> x.walk(1, 2), UNKNOWN);
        refuse("together(1, 1, 0)", x -> x.together(1, 1, 0), UNKNOWN);
        refuse("together(0, 1, 2)", x -> x.together(0, 1, 2), UNKNOWN);
    }

    private static void unfinishedPages() {
        sentence("5: STATE: it is none (ROADS, PILGRIMS, MONTHS, the LOG, THE PAGE and the IMAGE stay)");
        String[] pages = {"", "0", "02", "02:", "02:f", "02:0", "02:05", "02:f05", "02:051,", "02:051,b", "00:051",
            "61:051", "02:001", "02:050", "02:061", "02:051;", "02:051,051,051,051,051,051,051,051,051", "x"};
        for (String text : pages) {
            state = () -> {
                CountedTrials x = readWith("07:d051,g012", 2);
                walk(x, 0, 0);
                log(x, 5);
                x.image();
                x.rest(0);
                return write(x, text);
            };
            refuse("roads() of " + text, x -> x.roads(), STATE);
        }
    }
}
