/** The edges of promises 1 to 9: THE PAGE, the text of ROADS, KINDS, WORTH, HARM, LICENCES. */
public final class RoadEdgesTest extends Checks {
    private static final String SEVEN = "01:051,051,051,051,051,051,051";
    private static final String EIGHT_WITH_LETTERS = "60:f051,b102,d231,g459,f051,b051,d051,g059";
    private static final String LETTERS = "fbdg";
    private static final String DIGITS = "0123456789";
    private static final int[] WORTH = {2, 0, 1, 4, 4};

    public static void main(String[] args) {
        newObject();
        codesOfLetters();
        fullPage();
        emptyPage();
        everyLetterEverywhere();
        firstFaultOfSeveral();
        faultChangesNothing();
        everyNeed();
        everyTwoEnds();
        everyHarm();
        everyBeginning();
        howManyRoads();
        othersAreGone();
        roadNumbers();
        kindsAndWorth();
        casts();
        harmSetAnew();
        licences();
        end();
    }

    private static void newObject() {
        sentence("1: No ROADS. At first there are no ROADS");
        CountedTrials x = new CountedTrials();
        countIs(x, 0, 0, 0, 0, 0, 0, 0, 0, 0);
        due("road(0, 0)", x.road(0, 0), UNKNOWN);
        due("about(0, 0)", x.about(0, 0), UNKNOWN);
        due("fault()", x.fault(), 0);
        due("walks()", x.walks(), STATE);
        due("image()", x.image(), STATE);
        due("restore()", x.restore(), STATE);
        sentence("1: an object tells nothing of another");
        CountedTrials other = readWith("07:051", 1);
        walk(other, 0, 0);
        log(other, 5);
        countIs(x, 0, 0, 0, 0, 0, 0, 0, 0, 0);
        countIs(new CountedTrials(), 0, 0, 0, 0, 0, 0, 0, 0, 0);
    }

    private static void codesOfLetters() {
        sentence("2: OUTSIDE: code (1 to 126)");
        CountedTrials x = new CountedTrials();
        int taken = 0;
        for (int code = -2; code <= 130; code++) {
            boolean isLetter = code >= 1 && code <= 126;
            if (isLetter && taken == 44) {
                x.blank();
                taken = 0;
            }
            taken += isLetter ? 1 : 0;
            due("letter(" + code + ")", x.letter(code), isLetter ? taken : OUTSIDE);
            due("count(6) behind letter(" + code + ")", x.count(6), taken);
        }
        for (int code : new int[] {LOW, LOW + 1, 128, 255, 256 + 48, 65536 + 48, HIGH}) {
            due("letter(" + code + ")", x.letter(code), OUTSIDE);
        }
    }

    private static void fullPage() {
        CountedTrials x = new CountedTrials();
        for (int round = 0; round < 2; round++) {
            sentence("2: how many THE PAGE has; FULL: above 44");
            for (int size = 1; size <= 44; size++) {
                due("letter(49)", x.letter(49), size);
            }
            due("letter(49), the 45th", x.letter(49), FULL);
            due("letter(1), the 45th", x.letter(1), FULL);
            due("letter(126), the 45th", x.letter(126), FULL);
            sentence("2: OUTSIDE is told ahead of FULL");
            due("letter(0), the 45th", x.letter(0), OUTSIDE);
            due("letter(127), the 45th", x.letter(127), OUTSIDE);
            due("count(6)", x.count(6), 44);
            sentence("3: THE PAGE is empty: how many letters it had, a full one");
            due("blank()", x.blank(), 44);
            due("count(6)", x.count(6), 0);
        }
        sentence("2: 44 letters are taken, though no ROADS have more than 42");
        CountedTrials y = page(EIGHT_WITH_LETTERS);
        due("count(6)", y.count(6), 42);
        due("letter(44)", y.letter(44), 43);
        due("letter(102)", y.letter(102), 44);
        due("letter(48)", y.letter(48), FULL);
        due("fault()", y.fault(), 42);
        due("roads()", y.roads(), STATE);
        due("count(6)", y.count(6), 44);
    }

    private static void emptyPage() {
        sentence("3: THE PAGE is empty: how many letters it had");
        CountedTrials x = new CountedTrials();
        due("blank() of an empty one", x.blank(), 0);
        write(x, "0");
        due("blank() of one letter", x.blank(), 1);
        due("blank() again", x.blank(), 0);
        due("fault()", x.fault(), 0);
        due("roads()", x.roads(), STATE);
        sentence("3: nothing of the letters that were there is left");
        write(x, "99:");
        x.blank();
        write(x, "01:051");
        due("fault()", x.fault(), 6);
        due("roads()", x.roads(), 1);
        sentence("3: THE PAGE alone is empty then");
        CountedTrials y = readWith("03:051,g012", 2);
        walk(y, 1, 0);
        log(y, 5, 0);
        y.image();
        write(y, "abc");
        y.way(0, 0);
        due("blank()", y.blank(), 3);
        countIs(y, 2, 3, 2, 0, 1, 2, 0, 1, 1);
        due("about(1, 0)", y.about(1, 0), GOAL);
        due("restore()", y.restore(), 1);
    }

    /** Behind a beginning that ROADS have, every letter: those of the list, and no other, may be there. */
    private static void lettersBehind(String beginning, String fine) {
        for (int code = 1; code <= 126; code++) {
            CountedTrials x = page(beginning);
            x.letter(code);
            boolean may = fine.indexOf((char) code) >= 0;
            due("fault() of " + beginning + " and code " + code, x.fault(), beginning.length() + (may ? 1 : 0));
        }
    }

    private static void everyLetterEverywhere() {
        sentence("1 ROADS: two digits NEED (01 to 60, in halves)");
        lettersBehind("", "0123456");
        lettersBehind("0", "123456789");
        for (char tens = '1'; tens <= '5'; tens++) {
            lettersBehind("" + tens, DIGITS);
        }
        lettersBehind("6", "0");
        sentence("1 ROADS: ':'");
        lettersBehind("01", ":");
        lettersBehind("60", ":");
        sentence("1 ROADS: each perhaps a letter, then two unlike digits (0 to 5)");
        lettersBehind("01:", LETTERS + "012345");
        for (char letter : LETTERS.toCharArray()) {
            lettersBehind("01:" + letter, "012345");
        }
        for (char one = '0'; one <= '5'; one++) {
            lettersBehind("01:" + one, "012345".replace("" + one, ""));
            lettersBehind("01:d" + one, "012345".replace("" + one, ""));
        }
        sentence("1 ROADS: and a digit, the HARM (1 to 9)");
        lettersBehind("01:05", "123456789");
        lettersBehind("01:g50", "123456789");
        sentence("1 ROADS: one to eight ROADS with ',' between");
        lettersBehind("01:051", ",");
        lettersBehind("01:051,", LETTERS + "012345");
        lettersBehind("01:f051,b", "012345");
        lettersBehind(SEVEN, ",");
        lettersBehind(SEVEN + ",", LETTERS + "012345");
        lettersBehind(SEVEN + ",05", "123456789");
        lettersBehind(SEVEN + ",051", "");
        lettersBehind(EIGHT_WITH_LETTERS, "");
    }

    private static void faultIs(String text, int place) {
        CountedTrials x = page(text);
        due("fault() of " + text, x.fault(), place);
        due("roads() of " + text, x.roads(), STATE);
        due("count(6) of " + text, x.count(6), text.length());
        due("count(7) of " + text, x.count(7), 0);
    }

    private static void firstFaultOfSeveral() {
        sentence("4: the first letter that no ROADS have there, behind those ahead of it");
        faultIs("x", 0);
        faultIs("99:051", 0);
        faultIs("0x:051", 1);
        faultIs("6161", 1);
        faultIs("01x051", 2);
        faultIs("01:x051", 3);
        faultIs("01:ff051", 4);
        faultIs("01:f0f051", 5);
        faultIs("01:000000", 4);
        faultIs("01:050,050", 5);
        faultIs("01:0511,05", 6);
        faultIs("01:051,,051", 7);
        faultIs("01:051,221,331", 8);
        faultIs("01:051,120,330", 9);
        faultIs(SEVEN + ",051,051", SEVEN.length() + 4);
        faultIs(SEVEN + ",051,xxx", SEVEN.length() + 4);
        faultIs("01:051 ", 6);
        faultIs(" 01:051", 0);
        faultIs("+1:051", 0);
        faultIs("1:051", 1);
        faultIs("001:051", 1);
        faultIs("01:D051", 3);
    }

    private static void faultChangesNothing() {
        sentence("4: how many letters it has, if there is none");
        CountedTrials x = new CountedTrials();
        for (int i = 0; i < EIGHT_WITH_LETTERS.length(); i++) {
            due("fault() of " + i + " letters", x.fault(), i);
            due("fault() again", x.fault(), i);
            due("letter", x.letter(EIGHT_WITH_LETTERS.charAt(i)), i + 1);
        }
        due("fault() of all", x.fault(), 42);
        due("roads()", x.roads(), 8);
        due("fault() of an empty page, with ROADS", x.fault(), 0);
    }

    private static void everyNeed() {
        sentence("1 ROADS: NEED (01 to 60, in halves); 28: 1 NEED");
        for (int need = 0; need <= 99; need++) {
            CountedTrials x = page("" + need / 10 + need % 10 + ":051");
            boolean may = need >= 1 && need <= 60;
            due("fault() by NEED " + need, x.fault(), may ? 6 : need < 70 ? 1 : 0);
            due("roads() by NEED " + need, x.roads(), may ? 1 : STATE);
            due("count(1) by NEED " + need, x.count(1), may ? need : 0);
        }
    }

    private static void everyTwoEnds() {
        sentence("1 ROADS: two unlike digits (0 to 5: the PLACES at both ends); 6: 1, 2 both ends, as told");
        for (int one = 0; one <= 9; one++) {
            for (int other = 0; other <= 9; other++) {
                CountedTrials x = page("01:" + one + other + "7");
                boolean may = one <= 5 && other <= 5 && one != other;
                due("roads() of " + one + other, x.roads(), may ? 1 : STATE);
                due("road(0, 1) of " + one + other, x.road(0, 1), may ? one : UNKNOWN);
                due("road(0, 2) of " + one + other, x.road(0, 2), may ? other : UNKNOWN);
            }
        }
    }

    private static void everyHarm() {
        sentence("1 ROADS: a digit, the HARM (1 to 9); 6: 3 HARM");
        for (int harm = 0; harm <= 9; harm++) {
            CountedTrials x = page("01:05" + harm);
            due("roads() by HARM " + harm, x.roads(), harm >= 1 ? 1 : STATE);
            due("road(0, 3) by HARM " + harm, x.road(0, 3), harm >= 1 ? harm : UNKNOWN);
        }
    }

    private static void everyBeginning() {
        sentence("5: STATE: it is none (a beginning of ROADS is none, unless it is whole)");
        for (int size = 0; size <= EIGHT_WITH_LETTERS.length(); size++) {
            String text = EIGHT_WITH_LETTERS.substring(0, size);
            boolean whole = size >= 7 && (size - 2) % 5 == 0;
            CountedTrials x = page(text);
            due("fault() of " + text, x.fault(), size);
            due("roads() of " + text, x.roads(), whole ? (size - 2) / 5 : STATE);
            due("count(0) of " + text, x.count(0), whole ? (size - 2) / 5 : 0);
            due("count(1) of " + text, x.count(1), whole ? 60 : 0);
            due("count(6) of " + text, x.count(6), whole ? 0 : size);
            due("count(7) of " + text, x.count(7), whole ? 1 : 0);
        }
    }

    private static void howManyRoads() {
        sentence("5: how many (one to eight); THE PAGE is empty then");
        StringBuilder text = new StringBuilder("33:");
        for (int many = 1; many <= 9; many++) {
            text.append(many > 1 ? "," : "").append(many % 5).append(5).append(many);
            CountedTrials x = page(text.toString());
            due("roads() of " + text, x.roads(), many <= 8 ? many : STATE);
            due("count(0)", x.count(0), many <= 8 ? many : 0);
            due("letter behind roads()", x.letter(48), many <= 8 ? 1 : text.length() + 1);
            for (int road = 0; road < many && many <= 8; road++) {
                roadIs(x, road, 0, (road + 1) % 5, 5, road + 1, 2, 1);
            }
        }
    }

    private static void othersAreGone() {
        sentence("5: others are gone, with PILGRIMS, MONTHS, the LOG");
        CountedTrials x = readWith("02:051,g123,d349", 3);
        walk(x, 0, 0);
        x.enter(0);
        x.rest(1);
        x.worsen(0, 9);
        x.licence(0, false);
        x.licence(1, false);
        log(x, 5, NONE);
        x.bridge(1);
        countIs(x, 3, 2, 3, 1, 2, 2, 0, 1, 1);
        write(x, "07:052");
        due("roads()", x.roads(), 1);
        countIs(x, 1, 7, 0, 0, 0, 0, 0, 2, 1);
        roadIs(x, 0, 0, 0, 5, 2, 2, 1);
        due("road(1, 0)", x.road(1, 0), UNKNOWN);
        due("about(0, 0)", x.about(0, 0), UNKNOWN);
        due("walks()", x.walks(), 1);
        due("pilgrim()", x.pilgrim(), 0);
        aboutIs(x, 0, 0, 0, 0, 0, 0);
        knownIs(x, 0);
        sentence("5: STATE: it is none (what there is stays)");
        write(x, "07:05");
        due("roads()", x.roads(), STATE);
        countIs(x, 1, 7, 1, 0, 0, 0, 5, 2, 1);
        sentence("1 ROADS: a LICENCE it has at first, of ROADS that come later too");
        x.blank();
        write(x, "60:g051,g059,g501");
        due("roads()", x.roads(), 3);
        for (int road = 0; road < 3; road++) {
            due("road(" + road + ", 5)", x.road(road, 5), 1);
            due("road(" + road + ", 4)", x.road(road, 4), 4);
        }
    }

    private static void roadNumbers() {
        sentence("1 ROADS are numbered from 0; 6: UNKNOWN");
        for (int many = 1; many <= 8; many += many == 1 ? 1 : 6) {
            CountedTrials x = read((SEVEN + ",051").substring(0, 2 + 4 * many));
            for (int road = -2; road <= 9; road++) {
                boolean is = road >= 0 && road < many;
                due("road(" + road + ", 3) of " + many, x.road(road, 3), is ? 1 : UNKNOWN);
                due("as(" + road + ", 0) of " + many, x.as(road, 0), is ? road : UNKNOWN);
                due("worsen(" + road + ", 1) of " + many, x.worsen(road, 1), is ? 1 : UNKNOWN);
                due("licence(" + road + ", true) of " + many, x.licence(road, true), is ? 1 : UNKNOWN);
            }
        }
        sentence("6: OUTSIDE (what 0 to 5)");
        CountedTrials x = read("01:d345");
        roadIs(x, 0, 3, 3, 4, 5, 4, 1);
        for (int what : new int[] {LOW, -2, -1, 6, 7, 10, HIGH}) {
            due("road(0, " + what + ")", x.road(0, what), OUTSIDE);
        }
    }

    private static void kindsAndWorth() {
        sentence("KINDS told by the letter; WORTH with and without a LICENCE (it has one at first)");
        CountedTrials x = read("01:051,f051,b051,d051,g051");
        for (int kind = 0; kind <= 4; kind++) {
            roadIs(x, kind, kind, 0, 5, 1, WORTH[kind], 1);
            due("licence(" + kind + ", false)", x.licence(kind, false), 1);
            roadIs(x, kind, kind, 0, 5, 1, kind == 4 ? 0 : WORTH[kind], 0);
            due("licence(" + kind + ", true)", x.licence(kind, true), 0);
            roadIs(x, kind, kind, 0, 5, 1, WORTH[kind], 1);
        }
        sentence("WORTH: it is the same by any HARM");
        for (int kind = 0; kind <= 4; kind++) {
            x.worsen(kind, 9);
            due("road(" + kind + ", 4)", x.road(kind, 4), WORTH[kind]);
        }
    }

    private static void casts() {
        String[] fits = {"0", "01", "02", "03", "034"};
        for (int kind = 0; kind <= 4; kind++) {
            sentence("7: the number of the ROAD; NONE: it is none such; all are TRIALS; a DEMON is DOUBLE, too");
            String letter = kind == 0 ? "" : "" + LETTERS.charAt(kind - 1);
            CountedTrials x = read(SEVEN + "," + letter + "051");
            for (int asked = 0; asked <= 4; asked++) {
                boolean is = fits[kind].indexOf((char) ('0' + asked)) >= 0;
                due("as(7, " + asked + ") of kind " + kind, x.as(7, asked), is ? 7 : NONE);
            }
            sentence("7: a LICENCE does not matter to it");
            x.licence(7, false);
            due("as(7, " + kind + ")", x.as(7, kind), 7);
            due("as(7, 3)", x.as(7, 3), kind >= 3 ? 7 : NONE);
            sentence("7: OUTSIDE (kind 0 to 4)");
            for (int asked : new int[] {LOW, -2, -1, 5, 6, HIGH}) {
                due("as(7, " + asked + ")", x.as(7, asked), OUTSIDE);
            }
        }
    }

    private static void harmSetAnew() {
        sentence("8: The HARM of a ROAD becomes v: what it was; OUTSIDE: v (1 to 9)");
        CountedTrials x = read("01:055,d345,g125");
        int was = 5;
        for (int v : new int[] {1, 9, 2, 8, 8, 3, 7, 4, 6, 5, 1}) {
            due("worsen(1, " + v + ")", x.worsen(1, v), was);
            due("road(1, 3)", x.road(1, 3), v);
            was = v;
        }
        for (int v : new int[] {LOW, -1, 0, 10, 11, HIGH}) {
            due("worsen(1, " + v + ")", x.worsen(1, v), OUTSIDE);
            due("road(1, 3)", x.road(1, 3), 1);
        }
        sentence("8: of that ROAD alone, and nothing else of it");
        roadIs(x, 0, 0, 0, 5, 5, 2, 1);
        roadIs(x, 1, 3, 3, 4, 1, 4, 1);
        roadIs(x, 2, 4, 1, 2, 5, 4, 1);
        due("count(4)", x.count(4), 0);
    }

    private static void licences() {
        sentence("9: There is a LICENCE for a ROAD, or none: whether there was (1, 0)");
        CountedTrials x = read("01:g055,g345,g125");
        boolean[] is = {false, false, true, true, false};
        int[] was = {1, 0, 0, 1, 1};
        for (int i = 0; i < is.length; i++) {
            due("licence(1, " + is[i] + ")", x.licence(1, is[i]), was[i]);
            due("road(1, 5)", x.road(1, 5), is[i] ? 1 : 0);
            due("road(1, 4)", x.road(1, 4), is[i] ? 4 : 0);
        }
        sentence("9: for that ROAD alone");
        due("road(0, 5)", x.road(0, 5), 1);
        due("road(2, 5)", x.road(2, 5), 1);
        due("road(0, 4)", x.road(0, 4), 4);
    }
}
