/** The edges of promises 10 to 15: PILGRIMS, HURT, what COUNTS, walking by two, RESTING, who is LET IN. */
public final class PilgrimEdgesTest extends Checks {
    private static final String[] LETTER_OF_KIND = {"", "f", "b", "d", "g"};
    private static final int[] WORTH = {2, 0, 1, 4, 4};

    public static void main(String[] args) {
        howManyPilgrims();
        asAtFirst();
        pilgrimNumbers();
        whatIsTold();
        fromOneEndToTheOther();
        hurtOf99();
        noLastHarmIsLost();
        countsByGreaterHarm();
        countsForHim();
        worthThatCounts();
        worthOfNothingCounts();
        byTwoHurt();
        byTwoWorth();
        byTwoKnown();
        byTwoHurtOf99();
        byTwoPlaces();
        resting();
        monthsTaken();
        justNeed();
        atTheGoalAlone();
        turnedBack();
        farTooMany();
        letInDoesNothing();
        end();
    }

    private static void howManyPilgrims() {
        sentence("10: STATE: no ROADS");
        due("pilgrim() of nothing", new CountedTrials().pilgrim(), STATE);
        due("pilgrim() by a page that is not read", page("01:051").pilgrim(), STATE);
        sentence("10: A PILGRIM: his number; FULL (4 at most)");
        CountedTrials x = readWith("01:051", 4);
        for (int i = 0; i < 3; i++) {
            due("pilgrim(), the fifth", x.pilgrim(), FULL);
            due("count(2)", x.count(2), 4);
        }
        sentence("10: FULL, LET IN or not");
        CountedTrials y = readWith("02:051", 4);
        for (int i = 0; i < 4; i++) {
            walk(y, i, 0);
            due("enter(" + i + ")", y.enter(i), 0);
        }
        due("pilgrim(), all being LET IN", y.pilgrim(), FULL);
        due("count(3)", y.count(3), 4);
        write(y, "02:051");
        y.roads();
        due("pilgrim() on other ROADS", y.pilgrim(), 0);
    }

    private static void asAtFirst() {
        sentence("PILGRIMS: PLACE 0, HURT 0, COUNTED 0 at first, each TRIAL never");
        CountedTrials x = readWith("60:019,g128", 1);
        walk(x, 0, 0, 1, 1);
        for (int i = 1; i < 4; i++) {
            due("pilgrim()", x.pilgrim(), i);
            aboutIs(x, i, 0, 0, 0, 0, 0);
            knownIs(x, i);
        }
        aboutIs(x, 0, 1, 25, 6, 0, 3);
        knownIs(x, 0, 9, 8);
    }

    private static void pilgrimNumbers() {
        sentence("11 to 19: UNKNOWN (a number names nothing)");
        for (int many = 0; many <= 4; many++) {
            CountedTrials x = readWith("60:012,123", many);
            for (int i : new int[] {LOW, -1, 0, 1, 2, 3, 4, 5, HIGH}) {
                boolean is = i >= 0 && i < many;
                String of = "(" + i + ") of " + many;
                due("about" + of, x.about(i, 0), is ? 0 : UNKNOWN);
                due("walk" + of, x.walk(i, 0), is ? 1 : UNKNOWN);
                due("rest" + of, x.rest(i), is ? 0 : UNKNOWN);
                due("enter" + of, x.enter(i), is ? STATE : UNKNOWN);
                due("way" + of, x.way(i, 0), is ? NONE : UNKNOWN);
                due("bars" + of, x.bars(i), is ? NONE : UNKNOWN);
                due("most" + of, x.most(i, 0), is ? 2 : UNKNOWN);
                due("bridge" + of, x.bridge(i), is ? NONE : UNKNOWN);
            }
        }
        sentence("13: UNKNOWN: a, b, or they are the same, road");
        CountedTrials x = readWith("60:012,123", 3);
        for (int i : new int[] {LOW, -1, 3, 4, HIGH}) {
            due("together(" + i + ", 0, 0)", x.together(i, 0, 0), UNKNOWN);
            due("together(0, " + i + ", 0)", x.together(0, i, 0), UNKNOWN);
            due("together(" + i + ", " + i + ", 0)", x.together(i, i, 0), UNKNOWN);
        }
        for (int i = 0; i < 3; i++) {
            due("together(" + i + ", " + i + ", 0)", x.together(i, i, 0), UNKNOWN);
        }
        sentence("12, 13: UNKNOWN: road");
        for (int road : new int[] {LOW, -1, 2, 3, 8, HIGH}) {
            due("walk(0, " + road + ")", x.walk(0, road), UNKNOWN);
            due("together(0, 1, " + road + ")", x.together(0, 1, road), UNKNOWN);
        }
        due("together(0, 2, 0)", x.together(0, 2, 0), 1);
        due("count(4)", x.count(4), 1);
    }

    private static void whatIsTold() {
        sentence("11: what = 0 to 4, 10 to 17; OUTSIDE");
        CountedTrials x = readWith("60:f011,f012,f013,f014,f015,f016,f017,g018", 2);
        for (int road = 0; road < 8; road++) {
            walk(x, 1, road);
        }
        aboutIs(x, 1, 0, 36, 4, 0, 8);
        knownIs(x, 1, 1, 2, 3, 4, 5, 6, 7, 8);
        aboutIs(x, 0, 0, 0, 0, 0, 0);
        knownIs(x, 0);
        for (int what : new int[] {LOW, -10, -1, 5, 6, 7, 8, 9, 18, 19, HIGH}) {
            due("about(1, " + what + ")", x.about(1, what), OUTSIDE);
        }
        sentence("11: 10 to 17 ... 0: there is no such ROAD");
        CountedTrials y = readWith("60:019", 1);
        walk(y, 0, 0);
        knownIs(y, 0, 9);
    }

    private static void fromOneEndToTheOther() {
        sentence("12: WALKING a ROAD from the one end to the other one: the PLACE then");
        CountedTrials x = readWith("60:f051,f541,f431,f231,f211,f101", 1);
        int[] roads = {0, 1, 2, 3, 4, 5, 5, 4, 3, 2, 1, 0};
        int[] places = {5, 4, 3, 2, 1, 0, 1, 2, 3, 4, 5, 0};
        for (int i = 0; i < roads.length; i++) {
            due("walk(0, " + roads[i] + ")", x.walk(0, roads[i]), places[i]);
            aboutIs(x, 0, places[i], i + 1, 0, 0, i + 1);
        }
        sentence("12: STATE: not at an end of it");
        for (int place = 0; place < 6; place++) {
            for (int road = 0; road < 6; road++) {
                if (x.road(road, 1) != place && x.road(road, 2) != place) {
                    due("walk(0, " + road + ") at " + place, x.walk(0, road), STATE);
                }
            }
            aboutIs(x, 0, place);
            if (place < 5) {
                due("walk on", x.walk(0, 5 - place), place + 1);
            }
        }
    }

    private static void hurtOf99() {
        sentence("HURT 0 to 99: he MAY not, if that would be above 99 together");
        for (int harm = 1; harm <= 9; harm++) {
            for (int above = -1; above <= 1; above++) {
                CountedTrials x = readWith("60:05" + harm + ",f011", 1);
                hurt(x, 0, 1, 99 - harm + above);
                due("walk(0, 0) by " + (99 + above), x.walk(0, 0), above > 0 ? STATE : GOAL);
                due("about(0, 1)", x.about(0, 1), above > 0 ? 100 - harm : 99 + above);
                due("about(0, 2)", x.about(0, 2), above > 0 ? 0 : 2);
                due("about(0, 10)", x.about(0, 10), above > 0 ? 0 : harm);
            }
        }
        sentence("HURT 99: he MAY by no HARM, until he RESTS");
        CountedTrials x = readWith("60:051,f011", 1);
        hurt(x, 0, 1, 99);
        due("walk(0, 0)", x.walk(0, 0), STATE);
        due("rest(0)", x.rest(0), 94);
        due("walk(0, 0)", x.walk(0, 0), GOAL);
    }

    private static void countsByGreaterHarm() {
        sentence("the TRIAL COUNTS, if its HARM is greater than that by which it COUNTED last for him");
        for (int last = 1; last <= 9; last++) {
            for (int now = 1; now <= 9; now++) {
                CountedTrials x = readWith("60:05" + last, 1);
                walk(x, 0, 0);
                aboutIs(x, 0, 5, last, 2, 0, 1);
                knownIs(x, 0, last);
                x.worsen(0, now);
                walk(x, 0, 0);
                aboutIs(x, 0, 0, last + now, now > last ? 4 : 2, 0, 2);
                knownIs(x, 0, Math.max(last, now));
            }
        }
        sentence("the TRIAL COUNTS: nine times at most, by HARM 1 to 9");
        CountedTrials x = readWith("60:d051", 1);
        for (int harm = 1; harm <= 9; harm++) {
            x.worsen(0, harm);
            walk(x, 0, 0, 0);
            due("about(0, 2) by " + harm, x.about(0, 2), 4 * harm);
            due("about(0, 10) by " + harm, x.about(0, 10), harm);
        }
    }

    private static void noLastHarmIsLost() {
        sentence("that by which it COUNTED last (not that by which it was WALKED last)");
        CountedTrials x = readWith("60:055", 1);
        int[] harm = {5, 3, 4, 5, 6, 1, 6, 7};
        int[] counted = {2, 2, 2, 2, 4, 4, 4, 6};
        int[] known = {5, 5, 5, 5, 6, 6, 6, 7};
        for (int i = 0; i < harm.length; i++) {
            x.worsen(0, harm[i]);
            walk(x, 0, 0);
            due("about(0, 2) by " + harm[i], x.about(0, 2), counted[i]);
            due("about(0, 10) by " + harm[i], x.about(0, 10), known[i]);
        }
        sentence("8: what a PILGRIM knows of the HARM stays, when it becomes v");
        x.worsen(0, 9);
        due("about(0, 10)", x.about(0, 10), 7);
    }

    private static void countsForHim() {
        sentence("know for each TRIAL ... COUNTED last for him");
        CountedTrials x = readWith("60:011,013", 2);
        walk(x, 0, 0, 0);
        aboutIs(x, 0, 0, 2, 2, 0, 2);
        walk(x, 0, 1);
        knownIs(x, 0, 1, 3);
        due("about(0, 2)", x.about(0, 2), 4);
        walk(x, 1, 0);
        knownIs(x, 1, 1);
        due("about(1, 2)", x.about(1, 2), 2);
    }

    private static void worthThatCounts() {
        sentence("the TRIAL COUNTS its WORTH (2; FALSE 0; BOUGHT 1; DOUBLE 4; a DEMON 4, without a LICENCE 0)");
        for (int kind = 0; kind <= 4; kind++) {
            for (int licensed = 0; licensed <= 1; licensed++) {
                CountedTrials x = readWith("60:" + LETTER_OF_KIND[kind] + "053", 1);
                x.licence(0, licensed == 1);
                walk(x, 0, 0);
                int worth = kind == 4 && licensed == 0 ? 0 : WORTH[kind];
                aboutIs(x, 0, 5, 3, worth, 0, 1);
                knownIs(x, 0, 3);
            }
        }
        sentence("a LICENCE that comes or goes changes nothing of what he COUNTED");
        CountedTrials x = readWith("60:g053", 1);
        walk(x, 0, 0);
        x.licence(0, false);
        aboutIs(x, 0, 5, 3, 4, 0, 1);
    }

    // The condition tells of the HARM alone, so that a trial of WORTH 0 counts, too: nothing.
    private static void worthOfNothingCounts() {
        sentence("a TRIAL of WORTH 0 COUNTS 0, and again by a greater HARM alone");
        CountedTrials x = readWith("60:g053", 1);
        x.licence(0, false);
        walk(x, 0, 0);
        x.licence(0, true);
        walk(x, 0, 0);
        due("about(0, 2) by the same HARM", x.about(0, 2), 0);
        x.worsen(0, 4);
        walk(x, 0, 0);
        due("about(0, 2) by a greater HARM", x.about(0, 2), 4);
    }

    private static void byTwoHurt() {
        int[] half = {0, 1, 1, 2, 2, 3, 3, 4, 4, 5};
        for (int harm = 1; harm <= 9; harm++) {
            sentence("WALKING by two: each is HURT by half the HARM (rounded up)");
            CountedTrials x = readWith("60:50" + harm, 3);
            due("together(2, 0, 0)", x.together(2, 0, 0), GOAL);
            aboutIs(x, 2, 5, half[harm], 2, 0, 1);
            aboutIs(x, 0, 5, half[harm], 1, 0, 1);
            aboutIs(x, 1, 0, 0, 0, 0, 0);
            knownIs(x, 2, harm);
            knownIs(x, 0, harm);
            knownIs(x, 1);
            sentence("one by two is one WALK: a MONTH");
            due("count(4)", x.count(4), 1);
        }
    }

    private static void byTwoWorth() {
        sentence("for the second one it COUNTS half of the WORTH (rounded down)");
        int[] half = {1, 0, 0, 2, 2};
        for (int kind = 0; kind <= 4; kind++) {
            CountedTrials x = readWith("60:" + LETTER_OF_KIND[kind] + "012", 2);
            x.together(0, 1, 0);
            aboutIs(x, 0, 1, 1, WORTH[kind], 0, 1);
            aboutIs(x, 1, 1, 1, half[kind], 0, 1);
            CountedTrials y = readWith("60:" + LETTER_OF_KIND[kind] + "012", 2);
            y.together(1, 0, 0);
            aboutIs(y, 1, 1, 1, WORTH[kind], 0, 1);
            aboutIs(y, 0, 1, 1, half[kind], 0, 1);
        }
        sentence("for both it COUNTS 0 by a DEMON without a LICENCE");
        CountedTrials x = readWith("60:g012", 2);
        x.licence(0, false);
        x.together(0, 1, 0);
        due("about(0, 2)", x.about(0, 2), 0);
        due("about(1, 2)", x.about(1, 2), 0);
    }

    private static void byTwoKnown() {
        sentence("by two: else likewise (it COUNTS by its HARM, if that is greater than the last, for each)");
        CountedTrials x = readWith("60:d014", 2);
        walk(x, 0, 0, 0);
        due("together(0, 1, 0)", x.together(0, 1, 0), 1);
        aboutIs(x, 0, 1, 10, 4, 0, 3);
        aboutIs(x, 1, 1, 2, 2, 0, 1);
        due("together(0, 1, 0) again", x.together(0, 1, 0), 0);
        aboutIs(x, 0, 0, 12, 4, 0, 4);
        aboutIs(x, 1, 0, 4, 2, 0, 2);
        sentence("by two: what is known is the HARM, not the half of it");
        x.worsen(0, 3);
        walk(x, 1, 0, 0);
        due("about(1, 2) by less", x.about(1, 2), 2);
        x.worsen(0, 4);
        walk(x, 1, 0, 0);
        due("about(1, 2) by as much", x.about(1, 2), 2);
        knownIs(x, 1, 4);
        x.worsen(0, 5);
        due("together(0, 1, 0) by more", x.together(0, 1, 0), 1);
        due("about(0, 2) by more", x.about(0, 2), 8);
        due("about(1, 2) by more", x.about(1, 2), 4);
        knownIs(x, 0, 5);
        knownIs(x, 1, 5);
        sentence("by two: the first may have met it, the second not, and the other way round");
        CountedTrials y = readWith("60:d014", 2);
        walk(y, 1, 0, 0);
        y.together(0, 1, 0);
        due("about(0, 2)", y.about(0, 2), 4);
        due("about(1, 2)", y.about(1, 2), 4);
    }

    private static void byTwoHurtOf99() {
        sentence("13: STATE: one of them MAY not (99 together, by half the HARM)");
        for (int harm = 1; harm <= 9; harm++) {
            int half = (harm + 1) / 2;
            for (int tired = 0; tired <= 1; tired++) {
                CountedTrials x = readWith("60:05" + harm + ",f011", 2);
                hurt(x, tired, 1, 100 - half);
                due("together(0, 1, 0) by 100", x.together(0, 1, 0), STATE);
                due("together(1, 0, 0) by 100", x.together(1, 0, 0), STATE);
                CountedTrials y = readWith("60:05" + harm + ",f011", 2);
                hurt(y, tired, 1, 99 - half);
                due("together(0, 1, 0) by 99", y.together(0, 1, 0), GOAL);
                due("about(" + tired + ", 1)", y.about(tired, 1), 99);
                due("about(" + (1 - tired) + ", 1)", y.about(1 - tired, 1), half);
            }
        }
        sentence("by two one MAY, where he MAY not alone");
        CountedTrials x = readWith("60:059,f011", 2);
        hurt(x, 0, 1, 94);
        due("walk(0, 0)", x.walk(0, 0), STATE);
        due("together(0, 1, 0)", x.together(0, 1, 0), GOAL);
    }

    private static void byTwoPlaces() {
        sentence("13: STATE: not at an end of it, or they are not in the same PLACE");
        CountedTrials x = readWith("60:f011,f121,f011", 3);
        due("together(0, 1, 1) at 0", x.together(0, 1, 1), STATE);
        walk(x, 1, 0);
        due("together(0, 1, 0) at both ends", x.together(0, 1, 0), STATE);
        due("together(1, 0, 0) at both ends", x.together(1, 0, 0), STATE);
        due("together(0, 1, 1), the second alone at an end", x.together(0, 1, 1), STATE);
        due("together(1, 0, 1), the first alone at an end", x.together(1, 0, 1), STATE);
        due("together(0, 2, 0)", x.together(0, 2, 0), 1);
        due("together(1, 2, 1)", x.together(1, 2, 1), 2);
        due("together(2, 1, 1) back", x.together(2, 1, 1), 1);
        due("together(0, 2, 2)", x.together(0, 2, 2), 0);
        sentence("12: alone, one goes without the others");
        aboutIs(x, 1, 1, 3, 0, 0, 3);
        due("count(4)", x.count(4), 5);
    }

    private static void resting() {
        sentence("14: RESTING: 5 less HURT (0 at least): HURT then");
        CountedTrials x = readWith("60:f011,051", 1);
        due("rest(0) of 0", x.rest(0), 0);
        for (int hurt = 2; hurt <= 99; hurt++) {
            CountedTrials y = readWith("60:f011", 1);
            hurt(y, 0, 0, hurt);
            due("rest(0) of " + hurt, y.rest(0), hurt < 5 ? 0 : hurt - 5);
            due("about(0, 1)", y.about(0, 1), hurt < 5 ? 0 : hurt - 5);
        }
        hurt(x, 0, 0, 6);
        due("rest(0) of 6", x.rest(0), 1);
        due("rest(0) of 1", x.rest(0), 0);
        sentence("14: nothing but HURT and MONTHS is another then");
        walk(x, 0, 1);
        due("rest(0)", x.rest(0), 0);
        aboutIs(x, 0, 5, 0, 2, 0, 3);
        knownIs(x, 0, 3, 1);
        due("count(4)", x.count(4), 7);
    }

    private static void monthsTaken() {
        sentence("A WALK, a REST takes a MONTH (one by two is one WALK)");
        CountedTrials x = readWith("60:051,f011", 2);
        due("count(4)", x.count(4), 0);
        x.walk(0, 1);
        due("count(4) behind a WALK", x.count(4), 1);
        x.rest(0);
        due("count(4) behind a REST", x.count(4), 2);
        x.walk(1, 1);
        x.together(0, 1, 1);
        due("count(4) behind a WALK by two", x.count(4), 4);
        sentence("nothing else takes a MONTH");
        x.walk(0, 0);
        x.enter(0);
        x.enter(1);
        x.walk(1, 9);
        x.worsen(0, 2);
        x.licence(0, false);
        x.way(0, 0);
        x.bars(0);
        x.most(0, 60);
        x.bridge(0);
        x.log(5);
        x.forget();
        x.months(60, 1, 0);
        x.image();
        x.restore();
        x.digest();
        due("count(4)", x.count(4), 5);
    }

    private static void justNeed() {
        sentence("15: LET IN, if what he COUNTED is just NEED; else how many halves he lacks (below 0: too many)");
        String roads = ":d051,d051,d051,d051,d051,d051,d051,d051";
        for (int need = 1; need <= 60; need++) {
            CountedTrials x = readWith("" + need / 10 + need % 10 + roads, 1);
            walk(x, 0, 0, 1, 2);
            due("enter(0) by 12 of " + need, x.enter(0), need - 12);
            due("about(0, 3) by 12 of " + need, x.about(0, 3), need == 12 ? 1 : 0);
            due("count(3) by 12 of " + need, x.count(3), need == 12 ? 1 : 0);
        }
        sentence("15: how many halves he lacks, none being COUNTED");
        CountedTrials x = readWith("60:f051", 1);
        walk(x, 0, 0);
        due("enter(0)", x.enter(0), 60);
        CountedTrials y = readWith("01:f051", 1);
        walk(y, 0, 0);
        due("enter(0)", y.enter(0), 1);
    }

    private static void atTheGoalAlone() {
        sentence("The GOAL is PLACE 5; 15: STATE: not at the GOAL");
        for (int place = 1; place <= 5; place++) {
            CountedTrials x = readWith("02:0" + place + "1,121", 1);
            due("enter(0) at 0", x.enter(0), STATE);
            walk(x, 0, 0);
            due("enter(0) at " + place, x.enter(0), place == 5 ? 0 : STATE);
            due("about(0, 3) at " + place, x.about(0, 3), place == 5 ? 1 : 0);
        }
        sentence("15: at PLACE 0 with just NEED he is not LET IN, either");
        CountedTrials x = readWith("02:051", 1);
        walk(x, 0, 0, 0);
        due("enter(0)", x.enter(0), STATE);
        walk(x, 0, 0);
        due("enter(0) at the GOAL", x.enter(0), 0);
    }

    private static void turnedBack() {
        sentence("he is TURNED BACK (he stays as he is)");
        CountedTrials x = readWith("04:051,d052,d053", 2);
        walk(x, 0, 0);
        long[] before = allTold(x);
        due("enter(0)", x.enter(0), 2);
        due("enter(0) again", x.enter(0), 2);
        same("behind enter(0)", allTold(x), before);
        walk(x, 1, 1, 1, 2);
        before = allTold(x);
        due("enter(1), too many", x.enter(1), -4);
        same("behind enter(1)", allTold(x), before);
        sentence("who was TURNED BACK may be LET IN later");
        x.worsen(0, 2);
        walk(x, 0, 0, 0);
        due("enter(0)", x.enter(0), 0);
        aboutIs(x, 0, 5, 5, 4, 1, 3);
        sentence("at the GOAL who asks is LET IN: who does not ask is not");
        CountedTrials y = readWith("02:051", 1);
        walk(y, 0, 0);
        due("about(0, 3)", y.about(0, 3), 0);
        due("count(3)", y.count(3), 0);
        due("rest(0)", y.rest(0), 0);
        due("walk(0, 0)", y.walk(0, 0), 0);
    }

    /** So many of the roads 0 to 5 are walked by each harm from 1 to 9, with rests as they are needed. */
    private static CountedTrials countedByEachHarm(String text, int roads) {
        CountedTrials x = readWith(text, 1);
        for (int harm = 1; harm <= 9; harm++) {
            for (int road = 0; road < roads; road++) {
                x.worsen(road, harm);
                while (x.about(0, 1) + harm > 99) {
                    x.rest(0);
                }
                walk(x, 0, road);
            }
        }
        return x;
    }

    private static void farTooMany() {
        sentence("15: below 0: he has too many, by as much as the number of a refusal too");
        for (int tooMany = 101; tooMany <= 104; tooMany++) {
            CountedTrials x = countedByEachHarm("0" + (108 - tooMany) + ":d051,d051,d051", 3);
            due("about(0, 2)", x.about(0, 2), 108);
            due("enter(0)", x.enter(0), -tooMany);
            due("about(0, 3)", x.about(0, 3), 0);
            x.rest(0);
            due("walk(0, 0)", x.walk(0, 0), 0);
        }
        sentence("the most halves that one can have COUNTED of all: 8 DOUBLE ones by HARM 1 to 9");
        CountedTrials x = countedByEachHarm("01:d051,d051,d051,d051,d051,d051,d051,d051", 8);
        x.rest(0);
        x.rest(0);
        walk(x, 0, 0);
        aboutIs(x, 0, 5, x.about(0, 1), 288, 0, 73);
        knownIs(x, 0, 9, 9, 9, 9, 9, 9, 9, 9);
        due("enter(0)", x.enter(0), 1 - 288);
        due("way(0, 0)", x.way(0, 0), NONE);
        due("bars(0)", x.bars(0), NONE);
        due("most(0, 60)", x.most(0, 60), 288);
        due("bridge(0)", x.bridge(0), NONE);
        due("months(60, 1, 2)", x.months(60, 1, 2), 288);
        due("months(60, 1, 0)", x.months(60, 1, 0), 0);
    }

    private static CountedTrials oneLetIn() {
        CountedTrials x = readWith("02:051,f051", 2);
        walk(x, 0, 0);
        walk(x, 1, 1);
        due("enter(0)", x.enter(0), 0);
        return x;
    }

    private static void letInDoesNothing() {
        sentence("Who is LET IN does nothing any more (STATE: he is LET IN)");
        refused(PilgrimEdgesTest::oneLetIn, "walk(0, 0)", x -> x.walk(0, 0), STATE);
        refused(PilgrimEdgesTest::oneLetIn, "walk(0, 1)", x -> x.walk(0, 1), STATE);
        refused(PilgrimEdgesTest::oneLetIn, "together(0, 1, 1)", x -> x.together(0, 1, 1), STATE);
        refused(PilgrimEdgesTest::oneLetIn, "together(1, 0, 1)", x -> x.together(1, 0, 1), STATE);
        refused(PilgrimEdgesTest::oneLetIn, "rest(0)", x -> x.rest(0), STATE);
        refused(PilgrimEdgesTest::oneLetIn, "enter(0)", x -> x.enter(0), STATE);
        refused(PilgrimEdgesTest::oneLetIn, "way(0, 0)", x -> x.way(0, 0), STATE);
        refused(PilgrimEdgesTest::oneLetIn, "bars(0)", x -> x.bars(0), STATE);
        refused(PilgrimEdgesTest::oneLetIn, "most(0, 0)", x -> x.most(0, 0), STATE);
        refused(PilgrimEdgesTest::oneLetIn, "bridge(0)", x -> x.bridge(0), STATE);
        sentence("the others go on");
        CountedTrials x = oneLetIn();
        due("walk(1, 0)", x.walk(1, 0), 0);
        due("rest(1)", x.rest(1), 0);
        due("way(1, 0)", x.way(1, 0), 1);
        walk(x, 1, 0);
        due("enter(1)", x.enter(1), 0);
        due("count(3)", x.count(3), 2);
    }
}
