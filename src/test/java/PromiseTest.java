import java.util.function.IntSupplier;

/** Each promise by hand: ordinary calls, the edges that the document names, refusals and their order. */
public final class PromiseTest extends Checks {
    public static void main(String[] args) {
        constants();
        newObject();
        letter();
        blank();
        fault();
        roads();
        road();
        as();
        worsen();
        licence();
        pilgrim();
        about();
        walk();
        together();
        rest();
        enter();
        way();
        bars();
        most();
        bridge();
        foresightLimit();
        log();
        walks();
        walksBy();
        last();
        months();
        imageAndRestore();
        count();
        digest();
        refusalsChangeNothing();
        end();
    }

    private static CountedTrials blankPage(CountedTrials x, String text) {
        x.blank();
        return write(x, text);
    }

    private static void repeat(int times, String call, IntSupplier answer, int want) {
        for (int i = 0; i < times; i++) {
            due(call, answer.getAsInt(), want);
        }
    }

    private static void constants() {
        sentence("constants");
        due("NONE", CountedTrials.NONE, NONE);
        due("UNKNOWN", CountedTrials.UNKNOWN, UNKNOWN);
        due("OUTSIDE", CountedTrials.OUTSIDE, OUTSIDE);
        due("STATE", CountedTrials.STATE, STATE);
        due("FULL", CountedTrials.FULL, FULL);
    }

    private static void newObject() {
        sentence("1");
        CountedTrials x = new CountedTrials();
        for (int what = 0; what <= 8; what++) {
            due("count(" + what + ")", x.count(what), 0);
        }
        due("road(0, 0)", x.road(0, 0), UNKNOWN);
        due("pilgrim()", x.pilgrim(), STATE);
        due("about(0, 0)", x.about(0, 0), UNKNOWN);
        due("restore()", x.restore(), STATE);
    }

    private static void letter() {
        sentence("2");
        CountedTrials x = new CountedTrials();
        due("letter(0)", x.letter(0), OUTSIDE);
        due("letter(127)", x.letter(127), OUTSIDE);
        due("letter(LOW)", x.letter(LOW), OUTSIDE);
        due("letter(HIGH)", x.letter(HIGH), OUTSIDE);
        due("letter(1)", x.letter(1), 1);
        due("letter(126)", x.letter(126), 2);
        for (int size = 3; size <= 44; size++) {
            due("letter(48)", x.letter(48), size);
        }
        due("letter(48), the 45th", x.letter(48), FULL);
        due("letter(0), the 45th", x.letter(0), OUTSIDE);
        due("count(6)", x.count(6), 44);
    }

    private static void blank() {
        sentence("3");
        CountedTrials x = new CountedTrials();
        due("blank()", x.blank(), 0);
        write(x, "abc");
        due("blank()", x.blank(), 3);
        due("blank()", x.blank(), 0);
        due("count(6)", x.count(6), 0);
        due("letter(65)", x.letter(65), 1);
    }

    private static void fault() {
        sentence("4");
        CountedTrials x = new CountedTrials();
        due("fault() of nothing", x.fault(), 0);
        String[] fine = {
            "0", "6", "01", "60", "59", "10", "01:", "01:0", "01:f", "01:f5", "01:05", "01:059", "01:051,",
            "60:f051,b501,d231,g459,051,051,051,051"
        };
        for (String text : fine) {
            due("fault() of " + text, blankPage(x, text).fault(), text.length());
        }
        faultAt(x, "7", 0);
        faultAt(x, "x1:011", 0);
        faultAt(x, "00:011", 1);
        faultAt(x, "61", 1);
        faultAt(x, "6x", 1);
        faultAt(x, "1:", 1);
        faultAt(x, "0:", 1);
        faultAt(x, "01;", 2);
        faultAt(x, "01::", 3);
        faultAt(x, "01:,", 3);
        faultAt(x, "01:a01", 3);
        faultAt(x, "01:F01", 3);
        faultAt(x, "01:6", 3);
        faultAt(x, "01:ff", 4);
        faultAt(x, "01:f6", 4);
        faultAt(x, "01:00", 4);
        faultAt(x, "01:06", 4);
        faultAt(x, "01:010", 5);
        faultAt(x, "01:01,", 5);
        faultAt(x, "01:01:", 5);
        faultAt(x, "01:0111", 6);
        faultAt(x, "01:011;", 6);
        faultAt(x, "01:011,,", 7);
        faultAt(x, "01:011,221", 8);
        faultAt(x, "01:011,121,231,341,451,051,151,251,", 34);
        faultAt(x, "01:011,121,231,341,451,051,151,2511", 34);
        faultAt(x, "99999", 0);
    }

    private static void faultAt(CountedTrials x, String text, int place) {
        due("fault() of " + text, blankPage(x, text).fault(), place);
        due("roads() of " + text, x.roads(), STATE);
        due("count(6) of " + text, x.count(6), text.length());
    }

    private static void roads() {
        sentence("5");
        CountedTrials x = new CountedTrials();
        due("roads() of nothing", x.roads(), STATE);
        String[] unfinished = {"0", "01", "01:", "01:f", "01:0", "01:f0", "01:01", "01:f05", "01:011,", "01:011,d", "01:011,d05"};
        for (String text : unfinished) {
            due("roads() of " + text, blankPage(x, text).roads(), STATE);
            due("fault() of " + text, x.fault(), text.length());
        }
        blankPage(x, "60:f051,b501,d231,g459,f051,b051,d051,g051");
        due("roads() of 42 letters", x.roads(), 8);
        due("count(6)", x.count(6), 0);
        due("count(1)", x.count(1), 60);
        x.pilgrim();
        x.walk(0, 0);
        x.log(5);
        x.licence(3, false);
        x.worsen(0, 9);
        write(x, "01:g051");
        due("roads() again", x.roads(), 1);
        int[] counts = {1, 1, 0, 0, 0, 0, 0, 2, 0};
        for (int what = 0; what < counts.length; what++) {
            due("count(" + what + ")", x.count(what), counts[what]);
        }
        due("road(0, 3)", x.road(0, 3), 1);
        due("road(0, 5)", x.road(0, 5), 1);
        due("road(1, 0)", x.road(1, 0), UNKNOWN);
        due("pilgrim()", x.pilgrim(), 0);
        due("about(0, 10)", x.about(0, 10), 0);
        due("about(0, 0)", x.about(0, 0), 0);
    }

    private static void road() {
        sentence("6");
        CountedTrials x = read("10:051,f412,b303,d234,g019");
        int[][] told = {{0, 0, 5, 1, 2, 1}, {1, 4, 1, 2, 0, 1}, {2, 3, 0, 3, 1, 1}, {3, 2, 3, 4, 4, 1}, {4, 0, 1, 9, 4, 1}};
        for (int road = 0; road < told.length; road++) {
            for (int what = 0; what <= 5; what++) {
                due("road(" + road + ", " + what + ")", x.road(road, what), told[road][what]);
            }
        }
        due("road(0, 6)", x.road(0, 6), OUTSIDE);
        due("road(0, -1)", x.road(0, -1), OUTSIDE);
        due("road(5, 0)", x.road(5, 0), UNKNOWN);
        due("road(-1, 9)", x.road(-1, 9), UNKNOWN);
        due("road(LOW, LOW)", x.road(LOW, LOW), UNKNOWN);
    }

    private static void as() {
        sentence("7");
        CountedTrials x = read("10:051,f412,b303,d234,g019");
        int[][] told = {
            {0, NONE, NONE, NONE, NONE}, {1, 1, NONE, NONE, NONE}, {2, NONE, 2, NONE, NONE},
            {3, NONE, NONE, 3, NONE}, {4, NONE, NONE, 4, 4}
        };
        for (int road = 0; road < 5; road++) {
            for (int kind = 0; kind < 5; kind++) {
                due("as(" + road + ", " + kind + ")", x.as(road, kind), told[road][kind]);
            }
        }
        x.licence(4, false);
        due("as(4, 3) without a licence", x.as(4, 3), 4);
        due("as(0, 5)", x.as(0, 5), OUTSIDE);
        due("as(0, -1)", x.as(0, -1), OUTSIDE);
        due("as(5, 5)", x.as(5, 5), UNKNOWN);
        due("as(-1, 0)", x.as(-1, 0), UNKNOWN);
    }

    private static void worsen() {
        sentence("8");
        CountedTrials x = read("10:051,053");
        due("worsen(1, 9)", x.worsen(1, 9), 3);
        due("worsen(1, 1)", x.worsen(1, 1), 9);
        due("worsen(1, 0)", x.worsen(1, 0), OUTSIDE);
        due("worsen(1, 10)", x.worsen(1, 10), OUTSIDE);
        due("worsen(2, 10)", x.worsen(2, 10), UNKNOWN);
        due("worsen(-1, 5)", x.worsen(-1, 5), UNKNOWN);
        due("road(1, 3)", x.road(1, 3), 1);
        due("road(0, 3)", x.road(0, 3), 1);
        due("worsen() of nothing", new CountedTrials().worsen(0, 1), UNKNOWN);
    }

    private static void licence() {
        sentence("9");
        CountedTrials x = read("10:051,g053,f051");
        due("licence(1, false)", x.licence(1, false), 1);
        due("road(1, 4)", x.road(1, 4), 0);
        due("road(1, 5)", x.road(1, 5), 0);
        due("licence(1, false)", x.licence(1, false), 0);
        due("licence(1, true)", x.licence(1, true), 0);
        due("road(1, 4)", x.road(1, 4), 4);
        due("licence(0, false)", x.licence(0, false), 1);
        due("road(0, 4)", x.road(0, 4), 2);
        due("road(0, 5)", x.road(0, 5), 0);
        due("licence(3, true)", x.licence(3, true), UNKNOWN);
        due("licence(-1, true)", x.licence(-1, true), UNKNOWN);
    }

    private static void pilgrim() {
        sentence("10");
        due("pilgrim() of nothing", new CountedTrials().pilgrim(), STATE);
        CountedTrials x = readWith("10:051", 4);
        due("pilgrim(), the fifth", x.pilgrim(), FULL);
        due("count(2)", x.count(2), 4);
        due("about(3, 0)", x.about(3, 0), 0);
        due("about(4, 0)", x.about(4, 0), UNKNOWN);
    }

    private static void about() {
        sentence("11");
        CountedTrials x = readWith("06:d013,122,g251", 2);
        due("walk(1, 0)", x.walk(1, 0), 1);
        due("walk(1, 1)", x.walk(1, 1), 2);
        aboutIs(x, 0, 0, 0, 0, 0, 0);
        aboutIs(x, 1, 2, 5, 6, 0, 2);
        int[] known = {3, 2, 0, 0, 0, 0, 0, 0};
        for (int road = 0; road < 8; road++) {
            due("about(0, 1" + road + ")", x.about(0, 10 + road), 0);
            due("about(1, 1" + road + ")", x.about(1, 10 + road), known[road]);
        }
        for (int what : new int[] {-1, 5, 9, 18, LOW, HIGH}) {
            due("about(1, " + what + ")", x.about(1, what), OUTSIDE);
            due("about(2, " + what + ")", x.about(2, what), UNKNOWN);
        }
        due("about(-1, 0)", x.about(-1, 0), UNKNOWN);
        CountedTrials y = readWith("02:f011,f011,f011,f011,f011,f011,f011,059", 1);
        due("walk(0, 7)", y.walk(0, 7), 5);
        due("enter(0)", y.enter(0), 0);
        aboutIs(y, 0, 5, 9, 2, 1, 1);
        due("about(0, 17)", y.about(0, 17), 9);
    }

    private static void walk() {
        sentence("12");
        CountedTrials x = readWith("60:103,f011,b011,d011,g011,251", 2);
        due("walk(0, 0)", x.walk(0, 0), 1);
        due("walk(0, 0) back", x.walk(0, 0), 0);
        aboutIs(x, 0, 0, 6, 2, 0, 2);
        due("count(4)", x.count(4), 2);
        countsAgainByGreaterHarmAlone(x);
        countsOfKinds(readWith("60:103,f011,b011,d011,g011,251", 1));
        due("walk(0, 5), not at its end", x.walk(0, 5), STATE);
        due("walk(0, 6)", x.walk(0, 6), UNKNOWN);
        due("walk(0, -1)", x.walk(0, -1), UNKNOWN);
        due("walk(2, 0)", x.walk(2, 0), UNKNOWN);
        due("walk(-1, 9)", x.walk(-1, 9), UNKNOWN);
        hurtOf99(readWith("60:019", 1));
        CountedTrials y = readWith("02:051", 1);
        y.walk(0, 0);
        y.enter(0);
        due("walk(0, 0), let in", y.walk(0, 0), STATE);
        due("walk(0, 1), let in", y.walk(0, 1), UNKNOWN);
    }

    private static void countsAgainByGreaterHarmAlone(CountedTrials x) {
        int[] harm = {4, 2, 4, 5, 1};
        int[] counted = {4, 4, 4, 6, 6};
        int[] known = {4, 4, 4, 5, 5};
        for (int i = 0; i < harm.length; i++) {
            x.worsen(0, harm[i]);
            x.walk(0, 0);
            due("about(0, 2) by harm " + harm[i], x.about(0, 2), counted[i]);
            due("about(0, 10) by harm " + harm[i], x.about(0, 10), known[i]);
        }
        due("about(1, 10)", x.about(1, 10), 0);
        x.walk(0, 0);
    }

    private static void countsOfKinds(CountedTrials x) {
        int[] counted = {0, 0, 1, 5, 9};
        for (int road = 1; road <= 4; road++) {
            x.walk(0, road);
            due("about(0, 2) behind road " + road, x.about(0, 2), counted[road]);
        }
        due("about(0, 11): it counted nothing by harm 1", x.about(0, 11), 1);
        x.licence(4, false);
        x.worsen(4, 2);
        x.walk(0, 4);
        due("about(0, 2) without a licence", x.about(0, 2), 9);
        due("about(0, 14) without a licence", x.about(0, 14), 2);
        x.licence(4, true);
        x.walk(0, 4);
        due("about(0, 2) by the same harm", x.about(0, 2), 9);
        x.worsen(4, 3);
        x.walk(0, 4);
        due("about(0, 2) with a licence", x.about(0, 2), 13);
    }

    private static void hurtOf99(CountedTrials x) {
        for (int i = 1; i <= 11; i++) {
            due("walk(0, 0), the " + i + "th", x.walk(0, 0), i % 2);
        }
        aboutIs(x, 0, 1, 99, 2, 0, 11);
        due("walk(0, 0) by 108", x.walk(0, 0), STATE);
        x.worsen(0, 1);
        due("walk(0, 0) by 100", x.walk(0, 0), STATE);
        due("rest(0)", x.rest(0), 94);
        x.worsen(0, 6);
        due("walk(0, 0) by 100", x.walk(0, 0), STATE);
        x.worsen(0, 5);
        due("walk(0, 0) by 99", x.walk(0, 0), 0);
        due("about(0, 1)", x.about(0, 1), 99);
    }

    private static void together() {
        sentence("13");
        CountedTrials x = readWith("60:013,b122,d239,g341,f451", 3);
        due("together(1, 0, 0)", x.together(1, 0, 0), 1);
        aboutIs(x, 1, 1, 2, 2, 0, 1);
        aboutIs(x, 0, 1, 2, 1, 0, 1);
        due("about(0, 10)", x.about(0, 10), 3);
        due("about(1, 10)", x.about(1, 10), 3);
        due("count(4)", x.count(4), 1);
        due("together(0, 1, 1)", x.together(0, 1, 1), 2);
        aboutIs(x, 0, 2, 3, 2, 0, 2);
        aboutIs(x, 1, 2, 3, 2, 0, 2);
        due("about(1, 11): half of 1 is 0", x.about(1, 11), 2);
        due("together(0, 1, 2)", x.together(0, 1, 2), 3);
        aboutIs(x, 0, 3, 8, 6, 0, 3);
        aboutIs(x, 1, 3, 8, 4, 0, 3);
        due("walk(0, 3)", x.walk(0, 3), 4);
        due("walk(0, 3)", x.walk(0, 3), 3);
        due("together(0, 1, 3)", x.together(0, 1, 3), 4);
        aboutIs(x, 0, 4, 11, 10, 0, 6);
        aboutIs(x, 1, 4, 9, 6, 0, 4);
        due("together(0, 2, 3): not in the same place", x.together(0, 2, 3), STATE);
        due("together(0, 1, 0): not at its end", x.together(0, 1, 0), STATE);
        due("together(0, 0, 4)", x.together(0, 0, 4), UNKNOWN);
        due("together(3, 0, 4)", x.together(3, 0, 4), UNKNOWN);
        due("together(0, 3, 4)", x.together(0, 3, 4), UNKNOWN);
        due("together(-1, 0, 4)", x.together(-1, 0, 4), UNKNOWN);
        due("together(0, -1, 4)", x.together(0, -1, 4), UNKNOWN);
        due("together(0, 1, 5)", x.together(0, 1, 5), UNKNOWN);
        due("together(0, 2, 5): both wrong", x.together(0, 2, 5), UNKNOWN);
        due("count(4)", x.count(4), 6);
        togetherNear99();
        togetherLetIn();
    }

    private static void togetherNear99() {
        CountedTrials x = readWith("60:f019,f018,f011", 2);
        repeat(5, "walk(1, 0)", () -> x.walk(1, 0) + x.walk(1, 0), 1);
        due("walk(1, 1)", x.walk(1, 1), 1);
        due("walk(0, 2)", x.walk(0, 2), 1);
        due("about(1, 1)", x.about(1, 1), 98);
        x.worsen(0, 3);
        due("together(0, 1, 0) by 100", x.together(0, 1, 0), STATE);
        due("together(1, 0, 0) by 100", x.together(1, 0, 0), STATE);
        x.worsen(0, 2);
        due("together(0, 1, 0) by 99", x.together(0, 1, 0), 0);
        due("about(1, 1)", x.about(1, 1), 99);
    }

    private static void togetherLetIn() {
        CountedTrials x = readWith("02:051", 2);
        x.walk(0, 0);
        x.walk(1, 0);
        x.enter(0);
        due("together(0, 1, 0), let in", x.together(0, 1, 0), STATE);
        due("together(1, 0, 0), let in", x.together(1, 0, 0), STATE);
        due("together(1, 1, 0), let in", x.together(1, 1, 0), UNKNOWN);
    }

    private static void rest() {
        sentence("14");
        CountedTrials x = readWith("02:058,011", 1);
        due("rest(0)", x.rest(0), 0);
        due("count(4)", x.count(4), 1);
        x.walk(0, 0);
        due("rest(0)", x.rest(0), 3);
        due("rest(0)", x.rest(0), 0);
        due("count(4)", x.count(4), 4);
        aboutIs(x, 0, 5, 0, 2, 0, 1);
        due("rest(1)", x.rest(1), UNKNOWN);
        due("rest(-1)", x.rest(-1), UNKNOWN);
        x.enter(0);
        due("rest(0), let in", x.rest(0), STATE);
        due("count(4)", x.count(4), 4);
    }

    private static void enter() {
        sentence("15");
        CountedTrials x = readWith("05:051,d052,b053", 2);
        due("enter(0), not at the goal", x.enter(0), STATE);
        x.walk(0, 0);
        due("enter(0)", x.enter(0), 3);
        due("about(0, 3)", x.about(0, 3), 0);
        x.walk(0, 1);
        x.walk(0, 1);
        due("enter(0), too many", x.enter(0), -1);
        x.walk(1, 1);
        x.walk(1, 2);
        due("enter(1), not at the goal with just so many", x.enter(1), STATE);
        x.walk(1, 2);
        due("count(4)", x.count(4), 6);
        due("enter(1)", x.enter(1), 0);
        due("enter(1), let in", x.enter(1), STATE);
        aboutIs(x, 1, 5, 8, 5, 1, 3);
        due("count(3)", x.count(3), 1);
        due("count(4)", x.count(4), 6);
        due("enter(2)", x.enter(2), UNKNOWN);
        due("enter(-1)", x.enter(-1), UNKNOWN);
    }

    private static void wayIs(CountedTrials x, int harm, int walks, int first) {
        due("way(0, 0)", x.way(0, 0), harm);
        due("way(0, 1)", x.way(0, 1), walks);
        due("way(0, 2)", x.way(0, 2), first);
    }

    private static void way() {
        sentence("16");
        wayIs(readWith("06:011,d122,g251,b013,f501", 1), 5, 5, 0);
        wayIs(readWith("02:f012,152,054", 1), 4, 1, 2);
        wayIs(readWith("02:054,053,053", 1), 3, 1, 1);
        wayIs(readWith("02:d051,053", 1), 3, 1, 1);
        wayIs(readWith("04:051,152", 1), 5, 3, 0);
        wayIs(readWith("60:051", 1), NONE, NONE, NONE);
        wayIs(readWith("02:011", 1), NONE, NONE, NONE);
        wayIs(readWith("01:051", 1), NONE, NONE, NONE);
        wayIs(readWith("16:051,051,051,051,051,051,051,051", 1), 9, 9, 0);
        wayIs(readWith("14:051,051,051,051,051,051,051,051", 1), 7, 7, 0);
        CountedTrials there = readWith("02:051", 1);
        there.walk(0, 0);
        wayIs(there, 0, 0, NONE);
        there.walk(0, 0);
        wayIs(there, 1, 1, 0);
        there.worsen(0, 2);
        wayIs(there, NONE, NONE, NONE);
        wayNear99();
        CountedTrials x = readWith("02:051", 1);
        due("way(1, 3)", x.way(1, 3), UNKNOWN);
        due("way(-1, 0)", x.way(-1, 0), UNKNOWN);
        due("way(0, 3)", x.way(0, 3), OUTSIDE);
        due("way(0, -1)", x.way(0, -1), OUTSIDE);
        x.walk(0, 0);
        x.enter(0);
        due("way(0, 3), let in", x.way(0, 3), OUTSIDE);
        due("way(0, 0), let in", x.way(0, 0), STATE);
        due("count(8)", x.count(8), 0);
    }

    private static void wayNear99() {
        CountedTrials x = readWith("02:f019,f011,059", 1);
        repeat(5, "walk(0, 0)", () -> x.walk(0, 0) + x.walk(0, 0), 1);
        wayIs(x, 9, 1, 2);
        repeat(1, "walk(0, 1)", () -> x.walk(0, 1) + x.walk(0, 1), 1);
        wayIs(x, NONE, NONE, NONE);
        due("bars(0)", x.bars(0), NONE);
        due("bridge(0)", x.bridge(0), 5);
        due("rest(0)", x.rest(0), 87);
        wayIs(x, 9, 1, 2);
    }

    private static void bars() {
        sentence("17");
        due("bars of the least", readWith("02:f011,151", 1).bars(0), 0);
        due("bars behind another", readWith("02:f011,f011,151", 1).bars(0), 2);
        due("bars of two ways", readWith("02:054,054", 1).bars(0), NONE);
        due("bars of one", readWith("02:d051,051", 1).bars(0), 1);
        due("bars of what must count", readWith("06:051,d011", 1).bars(0), 0);
        due("bars of no way", readWith("60:051", 1).bars(0), NONE);
        CountedTrials x = readWith("02:051", 1);
        x.walk(0, 0);
        due("bars of who is there", x.bars(0), NONE);
        due("bars(1)", x.bars(1), UNKNOWN);
        due("bars(-1)", x.bars(-1), UNKNOWN);
        x.enter(0);
        due("bars(0), let in", x.bars(0), STATE);
        due("count(8)", x.count(8), 1);
    }

    private static void most() {
        sentence("18");
        CountedTrials x = readWith("01:d012,d129,f011", 1);
        int[] harm = {0, 1, 2, 9, 10, 11, 60};
        int[] most = {0, 0, 4, 4, 4, 8, 8};
        for (int i = 0; i < harm.length; i++) {
            due("most(0, " + harm[i] + ")", x.most(0, harm[i]), most[i]);
        }
        due("most(0, -1)", x.most(0, -1), OUTSIDE);
        due("most(0, 61)", x.most(0, 61), OUTSIDE);
        due("most(1, 61)", x.most(1, 61), UNKNOWN);
        due("most(-1, 0)", x.most(-1, 0), UNKNOWN);
        x.walk(0, 0);
        due("most(0, 8) with 4", x.most(0, 8), 4);
        due("most(0, 9) with 4", x.most(0, 9), 8);
        x.worsen(0, 5);
        due("most(0, 5) with 4", x.most(0, 5), 8);
        CountedTrials y = readWith("02:f019,057", 1);
        repeat(5, "walk(0, 0)", () -> y.walk(0, 0) + y.walk(0, 0), 1);
        due("most(0, 60) by 97", y.most(0, 60), 2);
        y.worsen(0, 1);
        y.walk(0, 0);
        y.walk(0, 0);
        due("most(0, 60) by 99", y.most(0, 60), 2);
        y.walk(0, 0);
        y.walk(0, 0);
        due("most(0, 60) by 101", y.most(0, 60), 0);
        CountedTrials z = readWith("02:051", 1);
        z.walk(0, 0);
        z.enter(0);
        due("most(0, 61), let in", z.most(0, 61), OUTSIDE);
        due("most(0, 60), let in", z.most(0, 60), STATE);
    }

    private static void bridge() {
        sentence("19");
        due("bridge where there is no way", readWith("02:011", 1).bridge(0), 5);
        due("bridge behind a road", readWith("04:013", 1).bridge(0), 11);
        due("bridge no better", readWith("02:051", 1).bridge(0), NONE);
        due("bridge better", readWith("02:052", 1).bridge(0), 5);
        due("bridge of like ones", readWith("06:012,152", 1).bridge(0), 1);
        due("bridge that can't help", readWith("60:051", 1).bridge(0), NONE);
        due("bridge of greater places", readWith("04:031,f341", 1).bridge(0), 6 * 3 + 5);
        due("bridge beside eight", readWith("02:f011,f011,f011,f011,f011,f011,f011,f011", 1).bridge(0), 5);
        due("bridge to count beside eight",
            readWith("18:051,051,051,051,051,051,051,051", 1).bridge(0), 5);
        CountedTrials x = readWith("02:051", 1);
        x.walk(0, 0);
        due("bridge of who is there", x.bridge(0), NONE);
        due("bridge(1)", x.bridge(1), UNKNOWN);
        due("bridge(-1)", x.bridge(-1), UNKNOWN);
        x.enter(0);
        due("bridge(0), let in", x.bridge(0), STATE);
        due("count(8)", x.count(8), 1);
    }

    private static void foresightLimit() {
        sentence("16 to 19");
        CountedTrials x = readWith("02:051", 1);
        for (int i = 0; i < 6; i++) {
            due("way(0, 0)", x.way(0, 0), 1);
            due("bars(0)", x.bars(0), 0);
            due("most(0, 60)", x.most(0, 60), 2);
            due("count(8)", x.count(8), 4 * i + 3);
            due("bridge(0)", x.bridge(0), NONE);
        }
        for (int round = 0; round < 2; round++) {
            due("way(0, 0), the 25th", x.way(0, 0), STATE);
            due("bars(0), the 25th", x.bars(0), STATE);
            due("most(0, 60), the 25th", x.most(0, 60), STATE);
            due("bridge(0), the 25th", x.bridge(0), STATE);
            due("way(0, 3), the 25th", x.way(0, 3), OUTSIDE);
            due("most(0, 61), the 25th", x.most(0, 61), OUTSIDE);
            due("bridge(1), the 25th", x.bridge(1), UNKNOWN);
            due("count(8)", x.count(8), 24);
            write(x, "02:051");
            x.roads();
            x.pilgrim();
        }
    }

    private static void log() {
        sentence("20, 21");
        CountedTrials x = new CountedTrials();
        due("forget() of nothing", x.forget(), 0);
        due("log(6)", x.log(6), UNKNOWN);
        due("log(-2)", x.log(-2), UNKNOWN);
        due("log(LOW)", x.log(LOW), UNKNOWN);
        for (int place = NONE; place <= 5; place++) {
            due("log(" + place + ")", x.log(place), place + 2);
        }
        due("log(0), the eighth", x.log(0), FULL);
        due("log(6), the eighth", x.log(6), UNKNOWN);
        due("count(5)", x.count(5), 7);
        due("forget()", x.forget(), 7);
        due("count(5)", x.count(5), 0);
        due("log(5)", x.log(5), 1);
        write(x, "02:051");
        due("roads()", x.roads(), 1);
        due("forget() behind roads()", x.forget(), 0);
    }

    private static void walks() {
        sentence("22");
        due("walks() of nothing", new CountedTrials().walks(), STATE);
        CountedTrials x = read("10:051,f059,012,121");
        due("walks() of an empty log", x.walks(), 1);
        x.log(NONE);
        due("walks()", x.walks(), 3);
        x.log(0);
        due("walks() behind 2", x.walks(), 5);
        x.log(5);
        due("walks() behind 3", x.walks(), 10);
        x.log(2);
        due("walks() that can't be", x.walks(), 0);
        x.forget();
        due("walks() of an empty log", x.walks(), 1);
        CountedTrials y = read("10:011,019,f011,b011,d011,g011,011,011");
        for (int month = 1; month <= 7; month++) {
            y.log(NONE);
            due("walks() of " + month, y.walks(), 1L << 3 * month);
        }
        CountedTrials z = read("10:121");
        z.log(NONE);
        due("walks() from where there is no road", z.walks(), 0);
        write(z, "10:011,011");
        z.roads();
        due("walks() of other roads", z.walks(), 1);
        CountedTrials hurt = readWith("10:019", 1);
        repeat(11, "walk(0, 0)", () -> hurt.walk(0, 0) < 2 ? 0 : 1, 0);
        hurt.log(1);
        due("walks() whatever is hurt", hurt.walks(), 1);
    }

    private static void walksBy() {
        sentence("23");
        due("walksBy(0) of nothing", new CountedTrials().walksBy(0), STATE);
        due("walksBy(61) of nothing", new CountedTrials().walksBy(61), OUTSIDE);
        due("walksBy(-1) of nothing", new CountedTrials().walksBy(-1), OUTSIDE);
        CountedTrials x = read("10:011,011,011,011,011,011,011,011");
        due("walksBy(0) of an empty log", x.walksBy(0), 1);
        repeat(7, "log(-1)", () -> x.log(NONE) > 0 ? 0 : 1, 0);
        int[] rows = {0, 8, 56 * 63, 336 * 301, 1680 * 350, 6720 * 140, 20160 * 21, 40320};
        for (int unlike = 0; unlike < 8; unlike++) {
            due("walksBy(" + 2 * unlike + ")", x.walksBy(2 * unlike), rows[unlike]);
            due("walksBy(" + (2 * unlike + 1) + ")", x.walksBy(2 * unlike + 1), 0);
        }
        due("walksBy(60)", x.walksBy(60), 0);
        due("walksBy(61)", x.walksBy(61), OUTSIDE);
        due("walksBy(-1)", x.walksBy(-1), OUTSIDE);
        CountedTrials y = read("10:g051,b051,f051,d011");
        y.log(NONE);
        int[] by = {1, 1, 0, 0, 2};
        for (int halves = 0; halves < by.length; halves++) {
            due("walksBy(" + halves + ")", y.walksBy(halves), by[halves]);
        }
        y.licence(0, false);
        due("walksBy(0) without a licence", y.walksBy(0), 2);
        due("walksBy(4) without a licence", y.walksBy(4), 1);
        y.image();
        y.licence(0, true);
        y.restore();
        due("walksBy(0) as it was", y.walksBy(0), 2);
    }

    private static void last() {
        sentence("24");
        due("last() of nothing", new CountedTrials().last(), STATE);
        CountedTrials x = read("10:f051,012,b125,g235");
        due("last() of an empty log", x.last(), NONE);
        x.log(1);
        due("last()", x.last(), 1);
        x.log(2);
        due("last() behind 2", x.last(), 2);
        x.log(1);
        x.log(0);
        due("last() that counted no more", x.last(), 2);
        x.log(5);
        due("last() behind a false one", x.last(), 2);
        x.log(4);
        due("last() that can't be", x.last(), NONE);
        CountedTrials y = read("10:f051,051,g121,011");
        y.log(5);
        due("last() where one row counted none", y.last(), NONE);
        y.forget();
        y.log(1);
        y.log(2);
        due("last() by a demon", y.last(), 2);
        y.licence(2, false);
        due("last() without its licence", y.last(), 3);
        CountedTrials z = read("10:f051,051,051");
        z.log(5);
        due("last() of unlike ones", z.last(), NONE);
        CountedTrials none = read("10:f051");
        none.log(5);
        due("last() where none was", none.last(), NONE);
    }

    private static void months() {
        sentence("25");
        CountedTrials none = new CountedTrials();
        due("months(1, 0, 0) of nothing", none.months(1, 0, 0), STATE);
        due("months(0, 0, 0) of nothing", none.months(0, 0, 0), OUTSIDE);
        CountedTrials x = readWith("02:051", 0);
        monthsAre(x, 60, 7, 0, 0, 0, 7);
        x.pilgrim();
        long before = x.digest();
        monthsAre(x, 1, 0, 1, 1, 2, 12345);
        monthsAre(x, 60, 0, 1, 1, 2, 12345);
        monthsAre(x, 1, HIGH, 1, 1, 2, 1043980748);
        due("digest()", x.digest(), before);
        int[][] wrongOnes = {{0, 0, 0}, {61, 0, 0}, {1, -1, 0}, {1, 0, -1}, {1, 0, 4}, {LOW, LOW, LOW}, {HIGH, HIGH, HIGH}};
        for (int[] w : wrongOnes) {
            due("months(" + w[0] + ", " + w[1] + ", " + w[2] + ")", x.months(w[0], w[1], w[2]), OUTSIDE);
        }
        monthsNear99();
        monthsByDraws();
    }

    private static void monthsAre(CountedTrials x, int months, int seed, int... told) {
        for (int what = 0; what < told.length; what++) {
            due("months(" + months + ", " + seed + ", " + what + ")", x.months(months, seed, what), told[what]);
        }
    }

    private static void monthsNear99() {
        CountedTrials x = readWith("60:019", 1);
        int hurt = 0;
        for (int month = 1; month <= 60; month++) {
            hurt = hurt + 9 <= 99 ? hurt + 9 : hurt - 5;
            due("months(" + month + ", 5, 1)", x.months(month, 5, 1), hurt);
        }
    }

    // Two roads, of which the draw chooses; the second is never at hand from 0.
    private static void monthsByDraws() {
        CountedTrials x = readWith("02:051,121", 1);
        for (int seed = 0; seed < 40; seed++) {
            long now = seed;
            int month = 0;
            boolean isIn = false;
            while (month < 5 && !isIn) {
                now = (1103515245L * now + 12345L) % 2147483648L;
                isIn = now / 65536 % 2 == 0;
                month++;
            }
            monthsAre(x, 5, seed, isIn ? 1 : 0, isIn ? 1 : 0, isIn ? 2 : 0, (int) now);
        }
    }

    private static void imageAndRestore() {
        sentence("26, 27");
        CountedTrials x = new CountedTrials();
        due("image() of nothing", x.image(), STATE);
        due("restore() of nothing", x.restore(), STATE);
        write(x, "02:051,g012");
        x.roads();
        due("restore() of none", x.restore(), STATE);
        x.pilgrim();
        x.walk(0, 0);
        x.log(1);
        due("image()", x.image(), 1);
        long then = x.digest();
        x.enter(0);
        x.pilgrim();
        x.walk(1, 1);
        x.rest(1);
        x.worsen(0, 9);
        x.licence(1, false);
        x.log(NONE);
        due("count(4)", x.count(4), 3);
        due("restore()", x.restore(), 1);
        due("digest() as it was", x.digest(), then);
        x.forget();
        x.log(5);
        due("walks() of another log", x.walks(), 1);
        x.log(5);
        due("walks() that can't be", x.walks(), 0);
        due("restore()", x.restore(), 1);
        due("walks() of the log as it was", x.walks(), 1);
        due("last() of the log as it was", x.last(), 1);
        due("count(2)", x.count(2), 1);
        due("about(0, 3)", x.about(0, 3), 0);
        due("about(1, 0)", x.about(1, 0), UNKNOWN);
        x.forget();
        due("pilgrim(), a new one", x.pilgrim(), 1);
        aboutIs(x, 1, 0, 0, 0, 0, 0);
        due("about(1, 11)", x.about(1, 11), 0);
        due("restore() again", x.restore(), 1);
        due("digest() as it was", x.digest(), then);
        imageKeepsNoMore(x);
    }

    private static void imageKeepsNoMore(CountedTrials x) {
        x.way(0, 0);
        write(x, "02:");
        due("image(), the latest", x.image(), 1);
        x.rest(0);
        x.image();
        x.rest(0);
        due("restore() of the latest", x.restore(), 2);
        due("count(6)", x.count(6), 3);
        due("count(8)", x.count(8), 1);
        due("roads() of no whole page", x.roads(), STATE);
        due("restore() with the same roads", x.restore(), 2);
        blankPage(x, "02:051,g012");
        x.roads();
        due("restore() behind other roads", x.restore(), STATE);
        due("image()", x.image(), 0);
        due("restore()", x.restore(), 0);
    }

    private static void count() {
        sentence("28");
        CountedTrials x = readWith("02:051,g012,f121", 3);
        x.walk(0, 0);
        x.enter(0);
        x.rest(1);
        x.together(1, 2, 1);
        x.log(1);
        x.log(NONE);
        write(x, "abcd");
        x.bars(1);
        int[] counts = {3, 2, 3, 1, 3, 2, 4, 1, 1};
        for (int what = 0; what < counts.length; what++) {
            due("count(" + what + ")", x.count(what), counts[what]);
        }
        for (int what : new int[] {-1, 9, LOW, HIGH}) {
            due("count(" + what + ")", x.count(what), OUTSIDE);
        }
    }

    private static void digest() {
        sentence("29");
        CountedTrials x = new CountedTrials();
        due("digest() of nothing", x.digest(), hashed(761, 0, 0, 0, 0, 0, 0, 0, 0, 0));
        write(x, "7~");
        due("digest() of a page", x.digest(), hashed(761, 55, 126, 0, 0, 0, 0, 0, 0, 2, 0, 0));
        blankPage(x, "03:g051,b012");
        x.roads();
        x.pilgrim();
        x.pilgrim();
        x.walk(1, 1);
        x.licence(0, false);
        x.log(1);
        x.most(0, 3);
        write(x, "A");
        long h = hashed(761, 4, 0, 5, 1, 0, 0, 2, 0, 1, 2, 1, 1);
        h = hashed(h, 0, 0, 0, 0, 0, 0, 0, 0, 0, 0, 0, 0, 0);
        h = hashed(h, 1, 2, 1, 0, 1, 0, 2, 0, 0, 0, 0, 0, 0);
        h = hashed(h, 1, 0, 1, 65);
        due("digest()", x.digest(), hashed(h, 2, 3, 2, 0, 1, 1, 1, 1, 1));
    }

    private static long hashed(long start, long... numbers) {
        long h = start;
        for (long number : numbers) {
            h = 31 * h + number;
        }
        return h;
    }

    private static void refusalsChangeNothing() {
        sentence("refusals");
        CountedTrials x = readWith("02:051,g012,f121", 4);
        x.walk(0, 0);
        x.enter(0);
        x.walk(1, 1);
        write(x, "02:05");
        long before = x.digest();
        IntSupplier[] refused = {
            () -> x.letter(0), x::roads, () -> x.road(3, 0), () -> x.as(0, 5), () -> x.worsen(0, 10),
            () -> x.licence(3, false), x::pilgrim, () -> x.about(4, 0), () -> x.walk(0, 0), () -> x.walk(1, 0),
            () -> x.together(0, 1, 1), () -> x.together(1, 2, 1), () -> x.rest(0), () -> x.enter(0),
            () -> x.enter(1), () -> x.way(0, 0), () -> x.way(1, 3), () -> x.bars(0), () -> x.most(1, 61),
            () -> x.bridge(4), () -> x.log(6), () -> x.walksBy(61), () -> x.months(0, 0, 0), x::restore,
            () -> x.count(9)
        };
        for (int i = 0; i < refused.length; i++) {
            due("refusal " + i, refused[i].getAsInt() <= UNKNOWN ? 1 : 0, 1);
            due("digest() behind refusal " + i, x.digest(), before);
        }
    }
}
