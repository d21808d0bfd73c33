import java.math.BigInteger;
import java.util.ArrayList;
import java.util.List;
import java.util.function.Consumer;

/** The edges of promises 26 to 29: IMAGES, what count() tells, the digest. */
public final class WholeEdgesTest extends Checks {
    private static final BigInteger TWO_TO_64 = BigInteger.ONE.shiftLeft(64);

    public static void main(String[] args) {
        noImage();
        imageTellsMonths();
        keepsPilgrims();
        keepsAllOfThem();
        keepsHarmAndLicences();
        keepsMonthsAndLog();
        keepsNothingElse();
        theLatestImage();
        imageStaysAsItWas();
        otherRoadsSince();
        countsOfAll();
        countsAsked();
        howOftenRead();
        digestOfNothing();
        digestOfAll();
        digestOfOrder();
        digestOfEach();
        end();
    }

    // ---- images

    private static void noImage() {
        sentence("26: STATE: no ROADS");
        due("image() of nothing", new CountedTrials().image(), STATE);
        due("image() by a page that is not read", page("01:051").image(), STATE);
        CountedTrials x = new CountedTrials();
        log(x, 1, 2);
        due("image() with a LOG", x.image(), STATE);
        sentence("27: STATE: none was kept");
        due("restore() of nothing", x.restore(), STATE);
        due("count(5)", x.count(5), 2);
        CountedTrials y = readWith("01:051", 1);
        walk(y, 0, 0);
        due("restore()", y.restore(), STATE);
        aboutIs(y, 0, 5, 1, 2, 0, 1);
        sentence("27: a refused image() keeps none");
        write(x, "01:051");
        x.roads();
        due("restore()", x.restore(), STATE);
    }

    private static void imageTellsMonths() {
        sentence("26, 27: MONTHS");
        CountedTrials x = readWith("60:011", 1);
        due("image() at first", x.image(), 0);
        due("restore()", x.restore(), 0);
        walk(x, 0, 0, 0);
        x.rest(0);
        due("image() behind three", x.image(), 3);
        due("count(4)", x.count(4), 3);
        x.rest(0);
        due("count(4)", x.count(4), 4);
        due("restore()", x.restore(), 3);
        due("count(4)", x.count(4), 3);
    }

    private static void keepsPilgrims() {
        for (int before = 0; before <= 4; before++) {
            sentence("An IMAGE keeps how many PILGRIMS there are (those that come since are gone by restore())");
            CountedTrials x = readWith("60:011", before);
            x.image();
            for (int i = before; i < 4; i++) {
                due("pilgrim()", x.pilgrim(), i);
                walk(x, i, 0);
            }
            due("pilgrim(), the fifth", x.pilgrim(), FULL);
            x.restore();
            due("count(2)", x.count(2), before);
            due("about(" + before + ", 0)", x.about(before, 0), UNKNOWN);
            for (int i = before; i < 4; i++) {
                sentence("who comes behind restore() is as at first");
                due("pilgrim()", x.pilgrim(), i);
                aboutIs(x, i, 0, 0, 0, 0, 0);
                knownIs(x, i);
            }
            due("pilgrim(), the fifth", x.pilgrim(), FULL);
        }
    }

    private static void keepsAllOfThem() {
        sentence("An IMAGE keeps all that is told of them");
        CountedTrials x = readWith("02:051,052,f013,d121", 4);
        walk(x, 0, 0);
        x.enter(0);
        walk(x, 1, 1);
        walk(x, 2, 2, 3);
        x.rest(3);
        x.image();
        long[] then = allTold(x);
        due("enter(1)", x.enter(1), 0);
        walk(x, 2, 3, 2, 0);
        walk(x, 3, 1, 0);
        x.rest(3);
        due("count(3)", x.count(3), 2);
        x.restore();
        same("restored", allTold(x), then);
        aboutIs(x, 0, 5, 1, 2, 1, 1);
        aboutIs(x, 1, 5, 2, 2, 0, 1);
        aboutIs(x, 2, 2, 4, 4, 0, 2);
        knownIs(x, 2, 0, 0, 3, 1);
        aboutIs(x, 3, 0, 0, 0, 0, 0);
        knownIs(x, 3);
        sentence("who was LET IN then does nothing any more, who is LET IN since goes on");
        due("walk(0, 0)", x.walk(0, 0), STATE);
        due("walk(1, 0)", x.walk(1, 0), 0);
        sentence("what COUNTED since COUNTS again");
        walk(x, 3, 1);
        due("about(3, 2)", x.about(3, 2), 2);
    }

    private static void keepsHarmAndLicences() {
        sentence("An IMAGE keeps HARM, LICENCES");
        CountedTrials x = read("02:g051,g012,g123,g231,g341,g451,g501,g401");
        for (int road = 0; road < 8; road++) {
            x.worsen(road, road + 1);
            x.licence(road, road % 2 == 0);
        }
        x.image();
        long[] then = allTold(x);
        for (int road = 0; road < 8; road++) {
            x.worsen(road, 9 - road);
            x.licence(road, road % 2 != 0);
        }
        x.restore();
        for (int road = 0; road < 8; road++) {
            due("road(" + road + ", 3)", x.road(road, 3), road + 1);
            due("road(" + road + ", 5)", x.road(road, 5), road % 2 == 0 ? 1 : 0);
            due("road(" + road + ", 4)", x.road(road, 4), road % 2 == 0 ? 4 : 0);
        }
        same("restored", allTold(x), then);
    }

    private static void keepsMonthsAndLog() {
        sentence("An IMAGE keeps the LOG");
        CountedTrials x = readWith("02:011,d021,131,d231", 1);
        log(x, 1, 3);
        due("last()", x.last(), 2);
        x.image();
        x.forget();
        log(x, 2, 3, NONE);
        due("last()", x.last(), NONE);
        x.restore();
        due("count(5)", x.count(5), 2);
        due("walks()", x.walks(), 1);
        due("walksBy(4)", x.walksBy(4), 1);
        due("last()", x.last(), 2);
        sentence("An IMAGE keeps the LOG: each of its MONTHS, a full and an empty one");
        CountedTrials y = read("01:011,121,231,341,451,f051");
        log(y, 1, 2, 3, 4, 5, 4, 5);
        due("walks()", y.walks(), 1);
        y.image();
        y.forget();
        log(y, 5, 0, 5, 0, 5, 0, 1);
        due("walks()", y.walks(), 1);
        due("last()", y.last(), 0);
        y.restore();
        due("count(5)", y.count(5), 7);
        due("walks()", y.walks(), 1);
        due("last()", y.last(), 4);
        due("log(0)", y.log(0), FULL);
        y.forget();
        y.image();
        log(y, 1, 2, 3, 4, 5, 4, 5);
        y.restore();
        due("count(5)", y.count(5), 0);
        due("log(0)", y.log(0), 1);
    }

    private static void keepsNothingElse() {
        sentence("An IMAGE keeps neither THE PAGE, nor how often ROADS were read, nor how often what would be was asked");
        CountedTrials x = readWith("02:051", 1);
        write(x, "01:0");
        x.way(0, 0);
        x.image();
        x.bars(0);
        x.most(0, 1);
        write(x, "51");
        due("restore()", x.restore(), 0);
        countIs(x, 1, 2, 1, 0, 0, 0, 6, 1, 3);
        due("fault()", x.fault(), 6);
        x.blank();
        x.restore();
        due("count(6)", x.count(6), 0);
    }

    private static void theLatestImage() {
        sentence("26: An IMAGE is kept (one; the latest)");
        CountedTrials x = readWith("60:011", 1);
        for (int months = 0; months < 4; months++) {
            due("image()", x.image(), months);
            x.rest(0);
        }
        due("restore()", x.restore(), 3);
        sentence("27: It goes on from the IMAGE, as often as one likes");
        due("restore() again", x.restore(), 3);
        x.rest(0);
        x.rest(0);
        due("restore() again", x.restore(), 3);
        sentence("27: an IMAGE of what was restored");
        x.rest(0);
        due("image()", x.image(), 4);
        due("restore()", x.restore(), 4);
    }

    private static void imageStaysAsItWas() {
        sentence("27: what is done since changes nothing of the IMAGE, behind restore() neither");
        CountedTrials x = readWith("02:051,g012", 2);
        walk(x, 1, 1);
        log(x, 5);
        x.image();
        long[] then = allTold(x);
        for (int round = 0; round < 3; round++) {
            walk(x, 0, 0);
            x.enter(0);
            walk(x, 1, 1);
            x.worsen(0, 5);
            x.licence(1, false);
            x.forget();
            log(x, 1, 0);
            x.pilgrim();
            x.restore();
            same("restored", allTold(x), then);
        }
        sentence("26: image() changes nothing but the IMAGE");
        x.image();
        same("behind image()", allTold(x), then);
    }

    private static void otherRoadsSince() {
        sentence("27: STATE: there are other ROADS since");
        CountedTrials x = readWith("02:051", 1);
        walk(x, 0, 0);
        due("image()", x.image(), 1);
        write(x, "03:012,g231");
        due("restore(), the page not being read", x.restore(), 1);
        due("roads()", x.roads(), 2);
        due("restore()", x.restore(), STATE);
        countIs(x, 2, 3, 0, 0, 0, 0, 0, 2, 0);
        sentence("27: none of the IMAGE comes back with ROADS of the same text");
        write(x, "02:051");
        x.roads();
        due("restore()", x.restore(), STATE);
        sentence("27: an IMAGE of the other ROADS");
        due("image()", x.image(), 0);
        x.pilgrim();
        x.rest(0);
        due("restore()", x.restore(), 0);
        countIs(x, 1, 2, 0, 0, 0, 0, 0, 3, 0);
        sentence("27: roads() that is refused leaves the IMAGE");
        write(x, "02:05");
        due("roads()", x.roads(), STATE);
        due("restore()", x.restore(), 0);
    }

    // ---- counts

    private static void countsOfAll() {
        sentence("28: 0 ROADS, 1 NEED, 2 PILGRIMS, 3 of them LET IN, 4 MONTHS, 5 MONTHS of the LOG, 6 letters, 7, 8");
        CountedTrials x = readWith("02:051,012,f121", 4);
        countIs(x, 3, 2, 4, 0, 0, 0, 0, 1, 0);
        for (int i = 0; i < 4; i++) {
            walk(x, i, 0);
            due("enter(" + i + ")", x.enter(i), 0);
            countIs(x, 3, 2, 4, i + 1, i + 1, 0, 0, 1, 0);
        }
        log(x, 1, NONE, 2);
        write(x, "ab");
        countIs(x, 3, 2, 4, 4, 4, 3, 2, 1, 0);
        sentence("28: 1 NEED (0: no ROADS)");
        CountedTrials y = page("07:05");
        due("roads()", y.roads(), STATE);
        countIs(y, 0, 0, 0, 0, 0, 0, 5, 0, 0);
    }

    private static void countsAsked() {
        sentence("28: OUTSIDE (what 0 to 8)");
        for (CountedTrials x : new CountedTrials[] {new CountedTrials(), readWith("60:051", 1)}) {
            for (int what : new int[] {LOW, -2, -1, 9, 10, HIGH}) {
                due("count(" + what + ")", x.count(what), OUTSIDE);
            }
            due("count(0) is none such", x.count(0) >= 0 ? 1 : 0, 1);
            due("count(8) is none such", x.count(8), 0);
        }
    }

    private static void howOftenRead() {
        sentence("28: 7 how often ROADS were read");
        CountedTrials x = new CountedTrials();
        for (int times = 1; times <= 20; times++) {
            due("roads() of nothing", x.roads(), STATE);
            due("count(7)", x.count(7), times - 1);
            write(x, "01:051");
            due("roads()", x.roads(), 1);
            due("count(7)", x.count(7), times);
        }
    }

    // ---- the digest

    private static long hashed(List<Long> numbers) {
        BigInteger h = BigInteger.valueOf(761);
        for (long number : numbers) {
            h = h.multiply(BigInteger.valueOf(31)).add(BigInteger.valueOf(number)).mod(TWO_TO_64);
        }
        return h.longValue();
    }

    /** By the document's order, of what the calls tell; the letters as they were written. */
    private static long hashedOf(CountedTrials x, String page) {
        List<Long> told = new ArrayList<>();
        int roads = x.count(0);
        int pilgrims = x.count(2);
        for (int road = 0; road < roads; road++) {
            for (int what = 0; what <= 5; what++) {
                told.add((long) x.road(road, what));
            }
        }
        for (int pilgrim = 0; pilgrim < pilgrims; pilgrim++) {
            for (int what = 0; what <= 17; what++) {
                if (what <= 4 || what >= 10) {
                    told.add((long) x.about(pilgrim, what));
                }
            }
        }
        if (roads > 0) {
            told.add((long) x.walks());
            told.add((long) x.walksBy(x.count(1)));
            told.add((long) x.last());
        }
        for (char letter : page.toCharArray()) {
            told.add((long) letter);
        }
        for (int what = 0; what <= 8; what++) {
            told.add((long) x.count(what));
        }
        return hashed(told);
    }

    private static void digestIs(String state, CountedTrials x, String page) {
        long want = hashedOf(x, page);
        due("digest() of " + state, x.digest(), want);
        due("digest() of " + state + " again", x.digest(), want);
    }

    private static void digestOfNothing() {
        sentence("29: h is 761, then for each of these numbers 31 times h, and it");
        long h = 761;
        for (int i = 0; i < 9; i++) {
            h *= 31;
        }
        due("digest() of nothing", new CountedTrials().digest(), h);
        sentence("29: letters of THE PAGE, without ROADS too");
        digestIs("a page", page("~\u0001 7"), "~\u0001 7");
        String full = "60:f051,b102,d231,g459,f051,b051,d051,g059,x";
        digestIs("a full page", page(full), full);
        sentence("29: with ROADS WALKS ...: without there are none");
        CountedTrials x = new CountedTrials();
        log(x, 1, 2, 3);
        digestIs("a log", x, "");
        due("digest() of a log", x.digest(), h + 3 * 31 * 31 * 31);
    }

    private static void digestOfAll() {
        sentence("29: (as longs, wrapping) of all that there can be");
        CountedTrials x = readWith("14:g051,f014,b022,d033,g041,121,f231,g349", 4);
        walk(x, 0, 0);
        walk(x, 1, 1, 5);
        x.together(2, 3, 3);
        x.rest(3);
        x.licence(4, false);
        x.worsen(2, 9);
        x.way(0, 0);
        x.bars(1);
        x.image();
        String full = "60:f051,b102,d231,g459,f051,b051,d051,g059,x";
        write(x, full);
        digestIs("all", x, full);
        log(x, 1, 2, NONE, NONE, NONE, 0, 5);
        digestIs("all with a log", x, full);
        due("digest() is below 2 to the 31 by none of these", x.digest() == (int) x.digest() ? 1 : 0, 0);
    }

    private static void digestOfOrder() {
        sentence("29: in order: of each ROAD, of each PILGRIM, WALKS, walksBy() of NEED, LAST, letters, count()");
        CountedTrials x = readWith("03:b342,014", 2);
        walk(x, 1, 1);
        x.licence(1, false);
        log(x, 1);
        write(x, "Aa");
        x.most(0, 60);
        List<Long> told = new ArrayList<>();
        long[] numbers = {2, 3, 4, 2, 1, 1, 0, 0, 1, 4, 2, 0,
            0, 0, 0, 0, 0, 0, 0, 0, 0, 0, 0, 0, 0,
            1, 4, 2, 0, 1, 0, 4, 0, 0, 0, 0, 0, 0,
            1, 0, 1, 65, 97, 2, 3, 2, 0, 1, 1, 2, 1, 1};
        for (long number : numbers) {
            told.add(number);
        }
        due("digest()", x.digest(), hashed(told));
        sentence("29: LAST may be NONE, below 0");
        CountedTrials y = read("02:011");
        told.clear();
        for (long number : new long[] {0, 0, 1, 1, 2, 1, 1, 0, NONE, 1, 2, 0, 0, 0, 0, 0, 1, 0}) {
            told.add(number);
        }
        due("digest()", y.digest(), hashed(told));
        y.log(1);
        for (int i = 0; i < 3; i++) {
            told.set(6 + i, new long[] {1, 1, 0}[i]);
        }
        told.set(14, 1L);
        due("digest() with a log", y.digest(), hashed(told));
    }

    // Each step on an object of its own, since one is promised for 512 calls alone.
    private static void digestOfEach() {
        sentence("29: each number that is told matters");
        List<Consumer<CountedTrials>> steps = List.of(
            x -> x.worsen(0, 2), x -> x.licence(0, false), x -> x.licence(1, false), x -> x.walk(0, 1),
            x -> x.rest(0), x -> x.walk(1, 0), x -> x.enter(1), x -> x.walk(0, 1), x -> x.pilgrim(),
            x -> x.log(NONE), x -> x.log(0), x -> x.way(0, 0), x -> x.most(0, 60), x -> x.forget(),
            x -> x.letter(5), x -> x.letter(6), x -> x.blank());
        String[] pages = {"\u0005", "\u0005\u0006", ""};
        for (int last = 0; last < steps.size(); last++) {
            CountedTrials x = readWith("02:051,g012", 2);
            for (int i = 0; i < last; i++) {
                steps.get(i).accept(x);
            }
            long before = x.digest();
            steps.get(last).accept(x);
            due("digest() is another behind step " + last, x.digest() == before ? 0 : 1, 1);
            digestIs("step " + last, x, last < 14 ? "" : pages[last - 14]);
        }
        sentence("29: a call that only tells changes no number");
        CountedTrials x = readWith("02:051,g012", 2);
        long before = x.digest();
        x.fault();
        x.as(0, 0);
        x.walks();
        x.walksBy(0);
        x.last();
        x.months(9, 9, 0);
        x.image();
        x.restore();
        due("digest()", x.digest(), before);
    }
}
