import java.util.function.ToIntFunction;

/** The edges of promises 16 to 19: a WAY, what BARS it, MOST, a BRIDGE, and the 24 times. */
public final class ForesightEdgesTest extends Checks {
    private static final String SEVEN_ELSEWHERE = "f121,f121,f121,f121,f121,f121,f121,";

    public static void main(String[] args) {
        leastHarmThenWalksThenFirst();
        justNeedAtTheGoal();
        whoIsThere();
        allElseAsItIs();
        wayOf99();
        noRestingOnTheWay();
        whatOfAWay();
        leastBar();
        noBar();
        barByHurt();
        mostOfEachHarm();
        mostAsItIs();
        mostOf99();
        everyBridge();
        bridgeAsItIs();
        likeBridges();
        noBridge();
        bridgeByHurt();
        twentyFourTimes();
        timesOfEach();
        refusedIsNotDone();
        foresightChangesNothing();
        end();
    }

    private static void wayIs(String state, CountedTrials x, int harm, int walks, int first) {
        due("way(0, 0), " + state, x.way(0, 0), harm);
        due("way(0, 1), " + state, x.way(0, 1), walks);
        due("way(0, 2), " + state, x.way(0, 2), first);
    }

    private static void wayOf(String text, int harm, int walks, int first) {
        wayIs(text, readWith(text, 1), harm, walks, first);
    }

    private static void noWay(String state, CountedTrials x) {
        wayIs(state, x, NONE, NONE, NONE);
    }

    private static void leastHarmThenWalksThenFirst() {
        sentence("A WAY: the least HARM together");
        wayOf("02:053,052,054", 2, 1, 1);
        wayOf("02:f011,151,053", 2, 2, 0);
        sentence("A WAY: how few WALKS of all by so much");
        wayOf("02:f011,151,052", 2, 1, 2);
        wayOf("02:f011,f121,f231,f341,451,056", 5, 5, 0);
        wayOf("02:f011,f121,f231,f341,451,055", 5, 1, 5);
        sentence("A WAY: the first ROAD of all by so much in so few: the least");
        wayOf("02:054,053,053", 3, 1, 1);
        wayOf("02:f021,f011,251,151", 2, 2, 0);
        wayOf("02:151,f021,f011,251", 2, 2, 1);
        wayOf("04:051,052", 4, 3, 0);
        wayOf("02:" + SEVEN_ELSEWHERE + "059", 9, 1, 7);
    }

    private static void justNeedAtTheGoal() {
        sentence("A WAY: at the GOAL, having COUNTED just NEED then; NONE: there is none");
        for (String text : new String[] {"01:051", "03:051", "02:011", "02:451", "01:f051", "04:051,121",
            "60:d051,d051,d051,d051,d051,d051,d051,d051"}) {
            wayOf(text, NONE, NONE, NONE);
        }
        wayOf("01:b051", 1, 1, 0);
        wayOf("04:d051", 1, 1, 0);
        wayOf("04:g051", 1, 1, 0);
        wayOf("02:f051,012", 5, 3, 1);
        wayOf("32:d051,d051,d051,d051,d051,d051,d051,d051", 9, 9, 0);
        wayOf("28:d051,d051,d051,d051,d051,d051,d051,d051", 7, 7, 0);
        sentence("A WAY: he may be at the GOAL ahead of that");
        wayOf("04:051,051", 3, 3, 0);
        wayOf("06:051,051,051", 3, 3, 0);
        wayOf("04:051,452", 5, 3, 0);
        sentence("A WAY: he may have COUNTED just NEED ahead of that");
        wayOf("02:012,f123,f254", 9, 3, 0);
    }

    private static void whoIsThere() {
        sentence("16: 0 HARM, 1 how few WALKS, 2 the first ROAD (NONE: he is there)");
        CountedTrials x = readWith("02:051", 1);
        wayIs("at first", x, 1, 1, 0);
        walk(x, 0, 0);
        wayIs("being there", x, 0, 0, NONE);
        walk(x, 0, 0);
        wayIs("with just NEED, not there", x, 1, 1, 0);
        sentence("A WAY: who is at the GOAL without just NEED goes on");
        CountedTrials y = readWith("04:051,051", 1);
        walk(y, 0, 0);
        wayIs("lacking 2", y, 2, 2, 0);
        CountedTrials z = readWith("02:d051,051", 1);
        walk(z, 0, 0);
        noWay("with too many", z);
        CountedTrials none = readWith("02:f051", 1);
        walk(none, 0, 0);
        noWay("lacking what there is not", none);
    }

    private static void allElseAsItIs() {
        sentence("A WAY: all else as it is (LICENCES)");
        CountedTrials x = readWith("04:g051,d053", 1);
        wayIs("with a LICENCE", x, 1, 1, 0);
        x.licence(0, false);
        wayIs("without a LICENCE", x, 3, 1, 1);
        x.licence(0, true);
        wayIs("with a LICENCE again", x, 1, 1, 0);
        sentence("A WAY: all else as it is (HARM)");
        x.worsen(0, 9);
        wayIs("by more HARM", x, 3, 1, 1);
        x.worsen(1, 9);
        wayIs("by as much HARM", x, 9, 1, 0);
        sentence("A WAY: all else as it is (what COUNTED, by what HARM, for him)");
        CountedTrials y = readWith("04:052,f051", 2);
        noWay("of one TRIAL", y);
        walk(y, 0, 0, 1);
        noWay("of one TRIAL that COUNTED", y);
        y.worsen(0, 3);
        wayIs("of one that COUNTS again", y, 3, 1, 0);
        due("way(1, 0), of another PILGRIM", y.way(1, 0), NONE);
        y.worsen(0, 2);
        noWay("by as much HARM as it COUNTED by", y);
        y.worsen(0, 1);
        noWay("by less HARM than it COUNTED by", y);
        sentence("A WAY for one (alone): by the whole HARM and WORTH");
        CountedTrials z = readWith("02:059", 2);
        wayIs("two being there", z, 9, 1, 0);
    }

    private static void wayOf99() {
        for (int harm = 1; harm <= 9; harm++) {
            sentence("A WAY: HURT 99 at most");
            CountedTrials x = readWith("02:05" + harm + ",f011", 1);
            hurt(x, 0, 1, 99 - harm);
            wayIs("by 99", x, harm, 1, 0);
            CountedTrials y = readWith("02:05" + harm + ",f011", 1);
            hurt(y, 0, 1, 100 - harm);
            noWay("by 100", y);
            sentence("A WAY: HURT 99 at most, on the least of two");
            CountedTrials z = readWith("02:f01" + harm + ",f121,f211,151", 1);
            hurt(z, 0, 0, 98 - harm);
            wayIs("by 99 on two", z, harm + 1, 2, 0);
        }
        sentence("A WAY: 99 HARM from HURT 0");
        wayOf("14:019,019,019,129,239,349,509", 99, 11, 0);
        CountedTrials x = readWith("14:019,019,019,129,239,349,509,f059", 1);
        x.worsen(7, 3);
        walk(x, 0, 7, 7);
        due("rest(0)", x.rest(0), 1);
        x.worsen(7, 9);
        noWay("by 100", x);
        due("rest(0)", x.rest(0), 0);
        wayIs("by 99", x, 99, 11, 0);
    }

    private static void noRestingOnTheWay() {
        sentence("A WAY: no RESTING");
        CountedTrials x = readWith("02:051,f012", 1);
        hurt(x, 0, 1, 99);
        noWay("HURT 99", x);
        x.rest(0);
        wayIs("HURT 94", x, 1, 1, 0);
    }

    private static void whatOfAWay() {
        sentence("16: OUTSIDE (what 0 to 2)");
        CountedTrials x = readWith("02:053", 1);
        for (int what : new int[] {LOW, -2, -1, 3, 4, HIGH}) {
            due("way(0, " + what + ")", x.way(0, what), OUTSIDE);
        }
        wayIs("02:053", x, 3, 1, 0);
        due("count(8)", x.count(8), 3);
    }

    private static void barsOf(String text, int road) {
        due("bars(0) of " + text, readWith(text, 1).bars(0), road);
    }

    private static void leastBar() {
        sentence("BARS: the least ROAD without which there is no WAY");
        barsOf("02:051", 0);
        barsOf("04:011,151", 0);
        barsOf("04:151,011", 0);
        barsOf("02:f121,051", 1);
        barsOf("02:f011,f011,151", 2);
        barsOf("02:f011,f011,151,151", NONE);
        barsOf("02:" + SEVEN_ELSEWHERE + "051", 7);
        sentence("BARS: it may be what must COUNT, and no ROAD that leads there");
        barsOf("04:f051,f051,d011", 2);
        barsOf("06:f051,f051,d011,012", 2);
        sentence("BARS: it may be on no WAY of least HARM, and a ROAD of one need be none");
        barsOf("02:051,059", NONE);
        sentence("BARS: without it, it can't be walked, either");
        barsOf("02:f051,012", 0);
    }

    private static void noBar() {
        sentence("17: NONE: none, or there is no WAY");
        barsOf("02:051,051", NONE);
        barsOf("02:011", NONE);
        barsOf("60:051", NONE);
        barsOf("01:051", NONE);
        CountedTrials x = readWith("02:051", 1);
        walk(x, 0, 0);
        due("bars(0) of who is there", x.bars(0), NONE);
        CountedTrials y = readWith("02:g051,053", 1);
        due("bars(0) of a DEMON beside", y.bars(0), 1);
        CountedTrials z = readWith("04:g051,d053", 1);
        due("bars(0) of a DEMON with a LICENCE", z.bars(0), NONE);
        z.licence(0, false);
        due("bars(0) of a DEMON without", z.bars(0), 1);
    }

    private static void barByHurt() {
        sentence("BARS: HURT 99 at most, without the ROAD too");
        CountedTrials x = readWith("02:059,051,f011", 1);
        hurt(x, 0, 2, 90);
        due("bars(0), both being open", x.bars(0), NONE);
        CountedTrials y = readWith("02:059,051,f011", 1);
        hurt(y, 0, 2, 91);
        due("bars(0), one being open", y.bars(0), 1);
        hurt(y, 0, 2, 8);
        due("bars(0), none being open", y.bars(0), NONE);
    }

    private static void mostOfEachHarm() {
        sentence("MOST: behind WALKS of so much HARM together at most");
        for (int harm = 1; harm <= 9; harm++) {
            CountedTrials x = readWith("60:d23" + harm + ",02" + harm, 1);
            due("most(0, 0)", x.most(0, 0), 0);
            due("most(0, " + (harm - 1) + ")", x.most(0, harm - 1), 0);
            due("most(0, " + harm + ")", x.most(0, harm), 2);
            due("most(0, " + (2 * harm - 1) + ")", x.most(0, 2 * harm - 1), 2);
            due("most(0, " + 2 * harm + ")", x.most(0, 2 * harm), 6);
            due("most(0, 60)", x.most(0, 60), 6);
        }
        sentence("MOST for so much HARM (0 to 60)");
        CountedTrials x = readWith("01:019,019,019,019,019,019,016", 1);
        due("most(0, 60) of 60", x.most(0, 60), 14);
        due("most(0, 59) of 60", x.most(0, 59), 12);
        x.worsen(6, 7);
        due("most(0, 60) of 61", x.most(0, 60), 12);
        for (int harm : new int[] {LOW, -2, -1, 61, 62, HIGH}) {
            due("most(0, " + harm + ")", x.most(0, harm), OUTSIDE);
        }
        sentence("MOST: the most that one can have, not the first nor by the least HARM");
        CountedTrials y = readWith("01:013,d014,b011", 1);
        int[] most = {0, 1, 1, 2, 4, 5, 5, 6, 7};
        for (int harm = 0; harm < most.length; harm++) {
            due("most(0, " + harm + ")", y.most(0, harm), most[harm]);
        }
        sentence("MOST: neither NEED nor the GOAL matters");
        CountedTrials z = readWith("01:d051,d051,d051", 1);
        due("most(0, 60)", z.most(0, 60), 12);
    }

    private static void mostAsItIs() {
        sentence("MOST: the most halves that one can have COUNTED (with those that he has)");
        CountedTrials x = readWith("01:d012,013,f011", 2);
        walk(x, 0, 0);
        due("most(0, 0) with 4", x.most(0, 0), 4);
        due("most(0, 2) with 4", x.most(0, 2), 4);
        due("most(0, 3) with 4", x.most(0, 3), 6);
        due("most(0, 60) with 4", x.most(0, 60), 6);
        due("most(1, 60) of another", x.most(1, 60), 6);
        due("most(1, 0) of another", x.most(1, 0), 0);
        sentence("MOST: what makes one COUNT again");
        x.worsen(0, 1);
        due("most(0, 60) by less", x.most(0, 60), 6);
        x.worsen(0, 3);
        due("most(0, 60) by more", x.most(0, 60), 10);
        sentence("MOST: LICENCES");
        CountedTrials y = readWith("01:g011", 1);
        due("most(0, 1) with a LICENCE", y.most(0, 1), 4);
        y.licence(0, false);
        due("most(0, 1) without a LICENCE", y.most(0, 1), 0);
    }

    private static void mostOf99() {
        sentence("MOST: HURT 99 at most");
        for (int harm = 1; harm <= 9; harm++) {
            CountedTrials x = readWith("01:d05" + harm + ",f011", 1);
            hurt(x, 0, 1, 99 - harm);
            due("most(0, 60) by 99", x.most(0, 60), 4);
            due("most(0, " + harm + ") by 99", x.most(0, harm), 4);
            due("most(0, " + (harm - 1) + ") by 99", x.most(0, harm - 1), 0);
            CountedTrials y = readWith("01:d05" + harm + ",f011", 1);
            hurt(y, 0, 1, 100 - harm);
            due("most(0, 60) by 100", y.most(0, 60), 0);
        }
        CountedTrials x = readWith("01:d051,f011", 1);
        walk(x, 0, 0, 0);
        hurt(x, 0, 1, 97);
        due("most(0, 60), HURT 99", x.most(0, 60), 4);
    }

    private static void bridgeOf(String text, int bridge) {
        due("bridge(0) of " + text, readWith(text, 1).bridge(0), bridge);
    }

    private static void everyBridge() {
        sentence("A BRIDGE: 6 times the lesser and the greater one, of all two unlike PLACES");
        bridgeOf("02:f121", 5);
        for (int a = 1; a <= 4; a++) {
            bridgeOf("04:" + a + "51", a);
            bridgeOf("04:0" + a + "1", 6 * a + 5);
            for (int b = 1; b <= 4; b++) {
                if (a != b) {
                    bridgeOf("06:0" + a + "1," + b + "51", 6 * Math.min(a, b) + Math.max(a, b));
                }
            }
        }
        sentence("A BRIDGE: one more ROAD beside eight");
        bridgeOf("02:" + SEVEN_ELSEWHERE + "f121", 5);
        bridgeOf("34:d051,d051,d051,d051,d051,d051,d051,d051", 5);
        sentence("A BRIDGE: from where he is");
        CountedTrials x = readWith("04:f041,351", 1);
        due("bridge(0) at 0", x.bridge(0), 3);
        walk(x, 0, 0);
        due("bridge(0) at 4", x.bridge(0), 6 * 3 + 4);
    }

    private static void bridgeAsItIs() {
        sentence("A BRIDGE: all else as it is (what he COUNTED, by what HARM, LICENCES)");
        CountedTrials x = readWith("04:012,f011", 1);
        walk(x, 0, 0);
        due("bridge(0) with 2 at 1", x.bridge(0), 6 * 1 + 5);
        walk(x, 0, 0);
        due("bridge(0) with 2 at 0", x.bridge(0), 5);
        x.worsen(0, 3);
        due("bridge(0), one COUNTING again", x.bridge(0), 5);
        CountedTrials y = readWith("04:g051", 1);
        due("bridge(0) with a LICENCE", y.bridge(0), NONE);
        y.licence(0, false);
        due("bridge(0) without a LICENCE", y.bridge(0), NONE);
        CountedTrials z = readWith("02:g059", 1);
        z.licence(0, false);
        due("bridge(0) by WORTH 0", z.bridge(0), 5);
        walk(z, 0, 0);
        due("bridge(0) at the GOAL, lacking 2", z.bridge(0), 5);
    }

    private static void likeBridges() {
        sentence("A BRIDGE: (by the lesser, then by the greater one) of like ones the least");
        bridgeOf("04:011,021", 6 * 1 + 5);
        bridgeOf("04:021,011", 6 * 1 + 5);
        bridgeOf("06:011,351,251", 6 * 1 + 2);
        bridgeOf("06:011,251,d452", 4);
        sentence("A BRIDGE: of least HARM, though a lesser one would do");
        bridgeOf("06:011,251,d453", 6 * 1 + 2);
        bridgeOf("04:011,022", 6 * 1 + 5);
        bridgeOf("04:012,021", 6 * 2 + 5);
    }

    private static void noBridge() {
        sentence("A BRIDGE: if that is less than it is; NONE");
        bridgeOf("02:051", NONE);
        bridgeOf("02:052", 5);
        bridgeOf("04:011,151", NONE);
        bridgeOf("04:011,152", 6 * 1 + 5);
        sentence("A BRIDGE: (or there is none as it is)");
        bridgeOf("02:d051", 5);
        bridgeOf("04:051", 1);
        bridgeOf("06:d051", 1);
        bridgeOf("60:051", NONE);
        sentence("A BRIDGE: with a TRIAL of KIND 0 (WORTH 2)");
        bridgeOf("01:b012", NONE);
        bridgeOf("01:b052", NONE);
        bridgeOf("03:b012", 6 * 1 + 5);
        bridgeOf("02:b012", 5);
        CountedTrials x = readWith("02:051", 1);
        walk(x, 0, 0);
        due("bridge(0) of who is there", x.bridge(0), NONE);
        CountedTrials y = readWith("02:d051", 1);
        walk(y, 0, 0);
        due("bridge(0) of who has too many", y.bridge(0), NONE);
    }

    private static void bridgeByHurt() {
        sentence("A BRIDGE: HARM 1, HURT 99 at most");
        for (int hurt = 97; hurt <= 99; hurt++) {
            CountedTrials x = readWith("02:f011", 1);
            hurt(x, 0, 0, hurt);
            due("bridge(0), HURT " + hurt, x.bridge(0), hurt < 99 ? 5 : NONE);
            CountedTrials y = readWith("04:011,f011", 1);
            hurt(y, 0, 1, hurt);
            due("bridge(0) behind a ROAD, HURT " + hurt, y.bridge(0), hurt < 98 ? 6 * 1 + 5 : NONE);
        }
        sentence("A BRIDGE: the WAY as it is may be too much by HURT");
        CountedTrials x = readWith("02:059,f011", 1);
        hurt(x, 0, 1, 98);
        due("bridge(0)", x.bridge(0), 5);
    }

    private static int ask(CountedTrials x, int which) {
        switch (which) {
            case 0: return x.way(0, 0);
            case 1: return x.bars(0);
            case 2: return x.most(0, 60);
            default: return x.bridge(0);
        }
    }

    private static void twentyFourTimes() {
        int[] answers = {1, 0, 2, NONE};
        for (int start = 0; start < 4; start++) {
            sentence("16 to 19: STATE: way(), bars(), most(), bridge() were done 24 times together");
            CountedTrials x = readWith("02:051", 1);
            for (int i = 0; i < 24; i++) {
                int which = (start + i) % 4;
                due("call " + i, ask(x, which), answers[which]);
                due("count(8)", x.count(8), i + 1);
            }
            allRefused(x);
            sentence("they are not begun anew by a REST, an IMAGE, other ROADS");
            x.rest(0);
            x.image();
            x.restore();
            allRefused(x);
            write(x, "02:051");
            x.roads();
            x.pilgrim();
            allRefused(x);
        }
    }

    private static void allRefused(CountedTrials x) {
        for (int which = 0; which < 4; which++) {
            due("call " + which + ", the 25th", ask(x, which), STATE);
            due("count(8)", x.count(8), 24);
        }
    }

    private static void timesOfEach() {
        int[] answers = {NONE, NONE, 2, NONE};
        for (int which = 0; which < 4; which++) {
            sentence("each of the four is counted, what it answers too, NONE as well");
            CountedTrials x = readWith("60:051", 2);
            for (int i = 0; i < 24; i++) {
                due("call " + i, ask(x, which), answers[which]);
            }
            due("count(8)", x.count(8), 24);
            due("the 25th", ask(x, which), STATE);
            sentence("24 times of all PILGRIMS together");
            due("way(1, 0)", x.way(1, 0), STATE);
        }
        CountedTrials x = readWith("02:051", 1);
        for (int what = 0; what < 24; what++) {
            x.way(0, what % 3);
        }
        due("way(0, 2), the 25th", x.way(0, 2), STATE);
    }

    private static void refusedIsNotDone() {
        sentence("8: how often they were done: a refused one was not");
        CountedTrials x = readWith("02:051", 2);
        walk(x, 1, 0);
        x.enter(1);
        x.way(0, 3);
        x.way(2, 0);
        x.way(1, 0);
        x.bars(2);
        x.bars(1);
        x.most(0, 61);
        x.most(2, 0);
        x.most(1, 0);
        x.bridge(2);
        x.bridge(1);
        due("count(8)", x.count(8), 0);
        for (int i = 0; i < 24; i++) {
            due("bars(0)", x.bars(0), 0);
        }
        due("bars(0), the 25th", x.bars(0), STATE);
    }

    private static void changesNothing(String call, ToIntFunction<CountedTrials> by) {
        CountedTrials x = readWith("06:011,d122,g251,b013,f501", 2);
        walk(x, 0, 0, 1);
        log(x, 1, NONE);
        write(x, "06:");
        x.image();
        walk(x, 0, 2);
        long[] before = allTold(x);
        by.applyAsInt(x);
        long[] behind = allTold(x);
        // The last numbers are count(8), fault() and digest(), which hashes count(8) last.
        before[before.length - 3]++;
        before[before.length - 1]++;
        same("behind " + call, behind, before);
        due("restore() behind " + call, x.restore(), 2);
    }

    private static void foresightChangesNothing() {
        sentence("what would be: only how often it was done is another then");
        changesNothing("way(0, 0)", x -> x.way(0, 0));
        changesNothing("bars(1)", x -> x.bars(1));
        changesNothing("most(0, 60)", x -> x.most(0, 60));
        changesNothing("bridge(1)", x -> x.bridge(1));
    }
}
