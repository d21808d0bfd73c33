import java.math.BigInteger;

/** The edges of promises 20 to 25: the LOG, WALKS, LAST, MONTHS by a SEED. */
public final class LogEdgesTest extends Checks {
    private static final BigInteger FACTOR = BigInteger.valueOf(1103515245);
    private static final BigInteger MORE = BigInteger.valueOf(12345);
    private static final BigInteger TWO_TO_31 = BigInteger.ONE.shiftLeft(31);
    private static final int[] SEEDS = {0, 1, 2, 3, 65535, 65536, 12345, 1103515245, 1 << 30, HIGH - 1, HIGH};

    public static void main(String[] args) {
        placesOfTheLog();
        sevenMonths();
        noRoads();
        rowsOfAnEmptyLog();
        rowsFromPlaceZero();
        placesTold();
        allRoadsAsTheyAre();
        mostRows();
        rowsByHalves();
        halvesAsked();
        lastOfAll();
        lastIsNone();
        lastThatCounted();
        rowsAreKeptUpToDate();
        numbersOfMonths();
        seedThen();
        drawOfRoads();
        walksElseRests();
        asksAtTheGoal();
        everyPilgrimByNumber();
        monthsChangeNothing();
        end();
    }

    // ---- the log

    private static void placesOfTheLog() {
        sentence("20: UNKNOWN: place (0 to 5) (NONE: nothing is told): how many there are");
        for (int place : new int[] {LOW, -102, -101, -3, -2, 6, 7, HIGH}) {
            CountedTrials x = read("01:011");
            due("log(" + place + ")", x.log(place), UNKNOWN);
            due("count(5)", x.count(5), 0);
        }
        for (int place = -1; place <= 5; place++) {
            CountedTrials x = read("01:011");
            due("log(" + place + ")", x.log(place), 1);
            due("log(" + place + ") again", x.log(place), 2);
            due("count(5)", x.count(5), 2);
        }
    }

    private static void sevenMonths() {
        CountedTrials x = read("01:011");
        for (int round = 0; round < 2; round++) {
            sentence("A LOG (7 at most); 20: FULL");
            for (int month = 1; month <= 7; month++) {
                due("log(-1)", x.log(NONE), month);
                due("count(5)", x.count(5), month);
            }
            for (int place = -1; place <= 5; place++) {
                due("log(" + place + "), the eighth", x.log(place), FULL);
            }
            sentence("20: UNKNOWN is told ahead of FULL");
            due("log(6), the eighth", x.log(6), UNKNOWN);
            due("log(-2), the eighth", x.log(-2), UNKNOWN);
            due("walks()", x.walks(), 1);
            sentence("21: The LOG is empty: how many MONTHS it had, a full one");
            due("forget()", x.forget(), 7);
            due("count(5)", x.count(5), 0);
        }
        sentence("21: how many MONTHS it had");
        due("forget() of an empty one", x.forget(), 0);
        x.log(3);
        due("forget() of one", x.forget(), 1);
        due("forget() again", x.forget(), 0);
        due("count(4), the MONTHS of PILGRIMS", x.count(4), 0);
    }

    private static void noRoads() {
        sentence("22, 24: STATE: no ROADS");
        CountedTrials x = new CountedTrials();
        due("walks()", x.walks(), STATE);
        due("last()", x.last(), STATE);
        sentence("23: OUTSIDE is told ahead of STATE");
        due("walksBy(-1)", x.walksBy(-1), OUTSIDE);
        due("walksBy(61)", x.walksBy(61), OUTSIDE);
        due("walksBy(0)", x.walksBy(0), STATE);
        due("walksBy(60)", x.walksBy(60), STATE);
        sentence("20, 21: a LOG needs no ROADS; 5: the LOG is gone by roads()");
        due("log(0)", x.log(0), 1);
        due("walks()", x.walks(), STATE);
        due("forget()", x.forget(), 1);
        due("log(4)", x.log(4), 1);
        write(x, "01:011");
        x.roads();
        due("count(5)", x.count(5), 0);
        due("walks()", x.walks(), 1);
    }

    private static CountedTrials logged(String text, int... places) {
        CountedTrials x = read(text);
        log(x, places);
        return x;
    }

    private static void walksOf(String text, int rows, int... places) {
        due("walks() of " + text, logged(text, places).walks(), rows);
    }

    private static void rowsOfAnEmptyLog() {
        sentence("22: 1, if the LOG is empty");
        CountedTrials x = read("01:d121,231");
        due("walks()", x.walks(), 1);
        due("walksBy(0)", x.walksBy(0), 1);
        due("walksBy(1)", x.walksBy(1), 0);
        due("walksBy(60)", x.walksBy(60), 0);
        due("last()", x.last(), NONE);
        x.log(1);
        due("walks()", x.walks(), 0);
        x.forget();
        due("walks() behind forget()", x.walks(), 1);
    }

    private static void rowsFromPlaceZero() {
        sentence("WALKING alone from PLACE 0, never RESTING");
        walksOf("01:121", 0, NONE);
        walksOf("01:121", 0, 2);
        walksOf("01:011", 1, NONE);
        walksOf("01:011", 1, 1);
        walksOf("01:101", 1, 1);
        walksOf("01:011", 0, 0);
        walksOf("01:011", 0, 2);
        walksOf("01:011", 0, 1, 1);
        walksOf("01:011", 1, 1, 0, 1, 0, 1, 0, 1);
        walksOf("01:011", 0, 1, 0, 1, 0, 1, 0, 0);
        sentence("a ROAD leads from either end to the other one");
        walksOf("01:051,545,431", 1, 5, 4, 3, 4, 5, 0);
    }

    private static void placesTold() {
        sentence("where one was behind each MONTH: a PLACE, or nothing of it (NONE)");
        String square = "01:011,021,131,231,f131";
        walksOf(square, 2, NONE);
        walksOf(square, 1, 2);
        walksOf(square, 5, NONE, NONE);
        walksOf(square, 3, NONE, 3);
        walksOf(square, 2, 1, 3);
        walksOf(square, 1, 2, 3);
        walksOf(square, 2, NONE, 0);
        walksOf(square, 0, NONE, 1);
        walksOf(square, 6, NONE, 3, 1);
        walksOf(square, 9, NONE, 3, NONE);
        walksOf(square, 0, 3);
        walksOf(square, 0, NONE, NONE, NONE, 5);
        sentence("of these PLACES each may be told, 0 and 5 too");
        for (int place = 1; place <= 5; place++) {
            walksOf("01:01" + 1 + ",021,031,041,051", 1, place);
            walksOf("01:01" + 1 + ",021,031,041,051", 1, place, 0);
        }
    }

    private static void allRoadsAsTheyAre() {
        sentence("all ROADS as they are; nothing having COUNTED; whatever HURT");
        CountedTrials x = readWith("02:g059,f011", 2);
        hurt(x, 0, 0, 99);
        walk(x, 1, 0);
        x.enter(1);
        log(x, 5, 0, 5, 0, 5, 0, 5);
        due("walks()", x.walks(), 1);
        due("walksBy(4)", x.walksBy(4), 1);
        due("last()", x.last(), 0);
        x.worsen(0, 1);
        due("walksBy(4) by less HARM", x.walksBy(4), 1);
        x.licence(0, false);
        due("walksBy(4) without a LICENCE", x.walksBy(4), 0);
        due("walksBy(0) without a LICENCE", x.walksBy(0), 1);
        due("last() without a LICENCE", x.last(), NONE);
        x.licence(0, true);
        due("walksBy(4) with a LICENCE", x.walksBy(4), 1);
        due("last() with a LICENCE", x.last(), 0);
    }

    private static void mostRows() {
        sentence("WALKS: in how many rows of ROADS it can have been, up to 8 by 7 MONTHS");
        CountedTrials x = read("01:011,012,f013,b014,d015,g016,017,018");
        int rows = 1;
        for (int month = 1; month <= 7; month++) {
            x.log(NONE);
            rows *= 8;
            due("walks() of " + month, x.walks(), rows);
        }
        due("walks() of all", x.walks(), 2097152);
        int sum = 0;
        for (int halves = 0; halves <= 60; halves++) {
            sum += x.walksBy(halves);
        }
        sentence("23: Of these, by how many halves he COUNTED (all of them together)");
        due("walksBy() together", sum, 2097152);
    }

    private static void rowsByHalves() {
        sentence("in how many he has COUNTED just so many halves in the end");
        CountedTrials x = logged("01:d011,d012,d013,d014,d015,d016,d017", NONE, NONE, NONE, NONE, NONE, NONE, NONE);
        due("walks()", x.walks(), 823543);
        due("walksBy(28), seven unlike ones", x.walksBy(28), 5040);
        due("walksBy(4), one alone", x.walksBy(4), 7);
        due("walksBy(8), two", x.walksBy(8), 21 * 126);
        due("walksBy(0)", x.walksBy(0), 0);
        due("walksBy(29)", x.walksBy(29), 0);
        sentence("a TRIAL COUNTS once, its HARM not being greater then");
        CountedTrials y = logged("01:015,b121,f121", 1, 0, 1);
        due("walksBy(2)", y.walksBy(2), 1);
        y.log(2);
        due("walksBy(2) by FALSE", y.walksBy(2), 1);
        due("walksBy(3) by BOUGHT", y.walksBy(3), 1);
        log(y, 1, 2);
        due("walksBy(2) of one row", y.walksBy(2), 1);
        due("walksBy(3) of seven", y.walksBy(3), 7);
        due("walks() of eight", y.walks(), 8);
    }

    private static void halvesAsked() {
        sentence("23: OUTSIDE: halves (0 to 60)");
        CountedTrials x = logged("01:f011", 1);
        for (int halves : new int[] {LOW, -2, -1, 61, 62, HIGH}) {
            due("walksBy(" + halves + ")", x.walksBy(halves), OUTSIDE);
        }
        due("walksBy(0)", x.walksBy(0), 1);
        for (int halves = 1; halves <= 60; halves++) {
            due("walksBy(" + halves + ")", x.walksBy(halves), 0);
        }
    }

    private static void lastOf(String text, int road, int... places) {
        due("last() of " + text, logged(text, places).last(), road);
    }

    private static void lastOfAll() {
        sentence("LAST: the ROAD by which a HALF was COUNTED last, if it is the same in all");
        for (int road = 0; road < 8; road++) {
            StringBuilder text = new StringBuilder("01:");
            for (int i = 0; i < 8; i++) {
                text.append(i > 0 ? "," : "").append(i == road ? "b011" : "231");
            }
            lastOf(text.toString(), road, 1);
            lastOf(text.toString(), road, NONE, 0, NONE);
        }
        lastOf("01:011,b121,d231,g341", 3, 1, 2, 3, 4);
        lastOf("01:g341,d231,b121,011", 0, 1, 2, 3, 4);
        lastOf("01:f011,f011,121", 2, NONE, 2);
        lastOf("01:011,021,131,231,341", 4, NONE, 3, 4);
    }

    private static void lastIsNone() {
        sentence("LAST: NONE: it is not");
        lastOf("01:011,011", NONE, 1);
        lastOf("01:011,021,131,231", NONE, NONE, 3);
        lastOf("01:011,011", NONE, 1, 0);
        sentence("LAST: NONE: none was (in all, or in one of them)");
        lastOf("01:f011", NONE, 1);
        lastOf("01:f011,f011", NONE, 1, 0, 1);
        lastOf("01:f011,011", NONE, 1);
        lastOf("01:011,f011", NONE, 1);
        sentence("LAST: NONE: there are none");
        lastOf("01:011", NONE, 2);
        lastOf("01:011", NONE, 1, 1);
        lastOf("01:121", NONE, NONE);
        lastOf("01:011", NONE);
    }

    private static void lastThatCounted() {
        sentence("LAST: by which a HALF was COUNTED: not by FALSE, a DEMON without a LICENCE, one that COUNTED");
        lastOf("01:011,f121", 0, 1, 2);
        lastOf("01:011,f121,b231", 2, 1, 2, 3);
        lastOf("01:011,b121", 1, 1, 2, 1, 0, 1);
        lastOf("01:011,f011", NONE, 1, 0);
        CountedTrials x = logged("01:011,g121", 1, 2);
        due("last() with a LICENCE", x.last(), 1);
        x.licence(1, false);
        due("last() without a LICENCE", x.last(), 0);
        sentence("LAST: two rows to one PLACE may have it by unlike ROADS");
        lastOf("01:011,121,201", NONE, NONE, NONE, 0);
    }

    private static void rowsAreKeptUpToDate() {
        sentence("what walks(), walksBy(), last() tell is of the LOG, ROADS and LICENCES as they are");
        CountedTrials x = read("02:011,g011");
        rowsAre(x, 1, 0, NONE);
        x.log(1);
        rowsAre(x, 2, 1, NONE);
        x.licence(1, false);
        rowsAre(x, 2, 1, NONE);
        due("walksBy(0)", x.walksBy(0), 1);
        x.image();
        x.log(0);
        rowsAre(x, 4, 3, NONE);
        x.licence(1, true);
        rowsAre(x, 4, 1, NONE);
        x.restore();
        rowsAre(x, 2, 1, NONE);
        due("walksBy(0)", x.walksBy(0), 1);
        x.forget();
        rowsAre(x, 1, 0, NONE);
        x.log(1);
        rowsAre(x, 2, 1, NONE);
        write(x, "02:011");
        x.roads();
        rowsAre(x, 1, 0, NONE);
        x.log(1);
        rowsAre(x, 1, 1, 0);
    }

    private static void rowsAre(CountedTrials x, int walks, int byTwo, int last) {
        due("walks()", x.walks(), walks);
        due("walksBy(2)", x.walksBy(2), byTwo);
        due("last()", x.last(), last);
    }

    // ---- months by a seed

    private static int nextSeed(int seed) {
        return FACTOR.multiply(BigInteger.valueOf(seed)).add(MORE).mod(TWO_TO_31).intValueExact();
    }

    private static void numbersOfMonths() {
        sentence("25: OUTSIDE: months (1 to 60), seed (0 at least), what");
        CountedTrials x = readWith("60:f019", 1);
        for (int months : new int[] {LOW, -1, 0, 61, 62, HIGH}) {
            due("months(" + months + ", 0, 0)", x.months(months, 0, 0), OUTSIDE);
        }
        for (int seed : new int[] {LOW, LOW + 1, -12345, -2, -1}) {
            due("months(1, " + seed + ", 0)", x.months(1, seed, 0), OUTSIDE);
        }
        for (int what : new int[] {LOW, -2, -1, 4, 5, HIGH}) {
            due("months(1, 0, " + what + ")", x.months(1, 0, what), OUTSIDE);
        }
        monthsAre(x, 1, 0, 0, 9, 0, nextSeed(0));
        sentence("25: OUTSIDE is told ahead of STATE: no ROADS");
        CountedTrials none = new CountedTrials();
        due("months(0, 0, 0)", none.months(0, 0, 0), OUTSIDE);
        due("months(61, 0, 0)", none.months(61, 0, 0), OUTSIDE);
        due("months(1, -1, 0)", none.months(1, -1, 0), OUTSIDE);
        due("months(1, 0, -1)", none.months(1, 0, -1), OUTSIDE);
        due("months(1, 0, 4)", none.months(1, 0, 4), OUTSIDE);
        for (int what = 0; what <= 3; what++) {
            due("months(1, 0, " + what + ")", none.months(1, 0, what), STATE);
            due("months(60, HIGH, " + what + ")", none.months(60, HIGH, what), STATE);
        }
    }

    private static void monthsAre(CountedTrials x, int months, int seed, int... told) {
        for (int what = 0; what < told.length; what++) {
            due("months(" + months + ", " + seed + ", " + what + ")", x.months(months, seed, what), told[what]);
        }
    }

    private static void seedThen() {
        sentence("DRAWS: the next SEED each time: 1103515245 times it and 12345, its rest by 2 to the 31");
        CountedTrials x = readWith("60:f019", 1);
        due("months(1, 0, 3)", x.months(1, 0, 3), 12345);
        due("months(1, 1, 3)", x.months(1, 1, 3), 1103527590);
        due("months(1, 2, 3)", x.months(1, 2, 3), 59559187);
        due("months(1, HIGH, 3)", x.months(1, HIGH, 3), 1043980748);
        for (int seed : SEEDS) {
            due("months(1, " + seed + ", 3)", x.months(1, seed, 3), nextSeed(seed));
        }
        sentence("so many MONTHS, up to 60, a DRAW in each");
        for (int first : new int[] {0, 191, HIGH}) {
            int seed = first;
            for (int months = 1; months <= 60; months++) {
                seed = nextSeed(seed);
                due("months(" + months + ", " + first + ", 3)", x.months(months, first, 3), seed);
            }
        }
        sentence("a DRAW by every PILGRIM; no PILGRIM, no DRAW");
        monthsAre(readWith("60:f019", 0), 60, 77, 0, 0, 0, 77);
        for (int pilgrims = 1; pilgrims <= 4; pilgrims++) {
            int seed = 77;
            for (int i = 0; i < 3 * pilgrims; i++) {
                seed = nextSeed(seed);
            }
            due("months(3, 77, 3) of " + pilgrims, readWith("60:f019", pilgrims).months(3, 77, 3), seed);
        }
    }

    private static void drawOfRoads() {
        sentence("DRAWS: then that by 65536 (rounded down), its rest (by how many ROADS there are)");
        String text = "60:f011,f012,f013,f014,f015,f016,f017,f018";
        for (int many = 1; many <= 8; many++) {
            CountedTrials x = readWith(text.substring(0, 2 + 5 * many), 1);
            for (int seed : SEEDS) {
                int drawn = nextSeed(seed) / 65536 % many;
                due("months(1, " + seed + ", 1) of " + many, x.months(1, seed, 1), drawn + 1);
            }
            for (int seed = 0; seed < 40; seed++) {
                int drawn = nextSeed(seed) / 65536 % many;
                due("months(1, " + seed + ", 1) of " + many, x.months(1, seed, 1), drawn + 1);
            }
        }
    }

    private static void walksElseRests() {
        sentence("he WALKS it alone, if he MAY (it has an end where he is), else he RESTS");
        CountedTrials x = readWith("60:f011,f127", 1);
        x.worsen(0, 8);
        walk(x, 0, 0, 0);
        for (int seed = 0; seed < 30; seed++) {
            boolean first = nextSeed(seed) / 65536 % 2 == 0;
            due("months(1, " + seed + ", 1) at 0", x.months(1, seed, 1), first ? 24 : 11);
        }
        walk(x, 0, 0);
        for (int seed = 0; seed < 30; seed++) {
            boolean first = nextSeed(seed) / 65536 % 2 == 0;
            due("months(1, " + seed + ", 1) at 1", x.months(1, seed, 1), first ? 32 : 31);
        }
        sentence("he WALKS, if he MAY (99 together), else he RESTS (0 at least)");
        for (int hurt = 89; hurt <= 99; hurt++) {
            CountedTrials y = readWith("60:f019", 1);
            hurt(y, 0, 0, hurt);
            due("months(1, 0, 1), HURT " + hurt, y.months(1, 0, 1), hurt <= 90 ? hurt + 9 : hurt - 5);
        }
        for (int hurt = 2; hurt <= 6; hurt++) {
            CountedTrials y = readWith("60:121,011", 1);
            hurt(y, 0, 1, hurt);
            int seed = seedOfDraw(0, 2);
            due("months(1, " + seed + ", 1), HURT " + hurt, y.months(1, seed, 1), hurt < 5 ? 0 : hurt - 5);
        }
        sentence("what he WALKS COUNTS as ever: by a greater HARM than the last");
        CountedTrials z = readWith("60:d012", 1);
        due("months(60, 0, 2)", z.months(3, 0, 2), 4);
        walk(z, 0, 0);
        due("months(1, 0, 2), having COUNTED", z.months(1, 0, 2), 4);
        z.worsen(0, 3);
        due("months(1, 0, 2), by more HARM", z.months(1, 0, 2), 8);
        CountedTrials demon = readWith("60:g012", 1);
        demon.licence(0, false);
        due("months(1, 0, 2) without a LICENCE", demon.months(1, 0, 2), 0);
    }

    /** The first seed by which so many roads draw this one. */
    private static int seedOfDraw(int road, int roads) {
        int seed = 0;
        while (nextSeed(seed) / 65536 % roads != road) {
            seed++;
        }
        return seed;
    }

    private static void asksAtTheGoal() {
        sentence("then, if he is at the GOAL, he asks");
        monthsAre(readWith("02:051", 1), 1, 0, 1, 1, 2, 12345);
        monthsAre(readWith("01:051", 1), 1, 0, 0, 1, 2, 12345);
        monthsAre(readWith("03:051", 1), 1, 0, 0, 1, 2, 12345);
        monthsAre(readWith("02:041", 1), 1, 0, 0, 1, 2, 12345);
        sentence("every PILGRIM who is not LET IN: no DRAW any more behind that");
        monthsAre(readWith("02:051", 1), 60, 0, 1, 1, 2, 12345);
        sentence("he asks behind a REST, too");
        CountedTrials x = readWith("02:056,011", 1);
        walk(x, 0, 0);
        int seed = seedOfDraw(1, 2);
        monthsAre(x, 1, seed, 1, 1, 2, nextSeed(seed));
        sentence("he WALKS ahead of asking");
        seed = seedOfDraw(0, 2);
        monthsAre(x, 1, seed, 0, 12, 2, nextSeed(seed));
        sentence("who is LET IN as it is: counted, and in what all have, without a DRAW");
        due("enter(0)", x.enter(0), 0);
        monthsAre(x, 60, 9, 1, 6, 2, 9);
        x.pilgrim();
        int seedThen = nextSeed(seedOfDraw(0, 2));
        monthsAre(x, 1, seedOfDraw(0, 2), 2, 12, 4, seedThen);
    }

    private static void everyPilgrimByNumber() {
        sentence("in each MONTH every PILGRIM, by number");
        CountedTrials x = readWith("60:f011,f012,f013,f014,f015", 4);
        for (int seed = 0; seed < 20; seed++) {
            int now = seed;
            int hurt = 0;
            for (int i = 0; i < 8; i++) {
                now = nextSeed(now);
                hurt += now / 65536 % 5 + 1;
            }
            monthsAre(x, 2, seed, 0, hurt, 0, now);
        }
        sentence("by number: 0 is the first to DRAW");
        CountedTrials y = readWith("02:051,f121", 2);
        walk(y, 0, 0);
        for (int seed = 0; seed < 30; seed++) {
            int one = nextSeed(seed);
            int two = nextSeed(one);
            boolean leaves = one / 65536 % 2 == 0;
            boolean comes = two / 65536 % 2 == 0;
            int in = (leaves ? 0 : 1) + (comes ? 1 : 0);
            int hurt = (leaves ? 2 : 0) + (comes ? 1 : 0);
            monthsAre(y, 1, seed, in, hurt, comes ? 4 : 2, two);
        }
    }

    private static void monthsChangeNothing() {
        sentence("MONTHS by a SEED, as they would be: nothing is another then");
        CountedTrials x = readWith("02:051,g012,d123", 3);
        walk(x, 1, 1);
        x.licence(1, false);
        log(x, 5, NONE);
        x.image();
        x.worsen(0, 3);
        write(x, "02");
        long[] before = allTold(x);
        for (int what = 0; what <= 3; what++) {
            int first = x.months(60, 5, what);
            due("months(60, 5, " + what + ") again", x.months(60, 5, what), first);
        }
        same("behind months()", allTold(x), before);
        due("restore()", x.restore(), 1);
        due("road(0, 3)", x.road(0, 3), 1);
    }
}
