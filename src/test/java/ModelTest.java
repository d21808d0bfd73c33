import java.util.ArrayList;
import java.util.Arrays;
import java.util.HashMap;
import java.util.HashSet;
import java.util.List;
import java.util.Map;
import java.util.PriorityQueue;
import java.util.Random;
import java.util.Set;

/**
 * Long runs of calls, by seeds that stay the same, on the class and on a plain
 * second program that searches by trying everything out; every answer must be the same.
 */
public final class ModelTest {
    private static final int RUNS = 300;
    private static final int CALLS = 400;
    private static int wrong = 0;

    public static void main(String[] args) {
        for (int run = 0; run < RUNS && wrong < 20; run++) {
            new Run(run).go();
        }
        System.out.println(wrong == 0 ? "class and model agree" : wrong + " runs differ");
        if (wrong != 0) {
            System.exit(1);
        }
    }

    /** One run of calls on both. */
    private static final class Run {
        private final int number;
        private final Random random;
        private final CountedTrials x = new CountedTrials();
        private final Model m = new Model();
        private final StringBuilder story = new StringBuilder();
        private boolean differs = false;

        Run(int number) {
            this.number = number;
            this.random = new Random(number);
        }

        void go() {
            int calls = 0;
            while (calls < CALLS && !differs) {
                if (calls == 0 || random.nextInt(120) == 0) {
                    calls += write(text());
                    both("roads()", x.roads(), m.roads());
                } else {
                    call(random.nextInt(33));
                }
                calls++;
                if (random.nextInt(8) == 0) {
                    calls++;
                    both("digest()", x.digest(), m.digest());
                }
            }
            if (differs) {
                wrong++;
                System.out.println("run " + number + ":" + story);
            }
        }

        private int write(String text) {
            both("blank()", x.blank(), m.blank());
            for (char c : text.toCharArray()) {
                both("letter(" + (int) c + ")", x.letter(c), m.letter(c));
            }
            both("fault() of " + text, x.fault(), m.fault());
            return text.length() + 2;
        }

        private void both(String call, long got, long want) {
            story.append("\n  ").append(call).append(" = ").append(got);
            if (got != want) {
                story.append(", but by the model ").append(want);
                differs = true;
            }
        }

        /** Mostly roads; now and then with a letter that is none there, or too short. */
        private String text() {
            int roads = 1 + random.nextInt(8);
            int places = 2 + random.nextInt(5);
            int harms = random.nextBoolean() ? 9 : 2;
            StringBuilder b = new StringBuilder();
            int need = 1 + random.nextInt(random.nextInt(6) == 0 ? 60 : 14);
            b.append(need / 10).append(need % 10).append(':');
            for (int i = 0; i < roads; i++) {
                if (i > 0) {
                    b.append(',');
                }
                if (random.nextBoolean()) {
                    b.append("fbdg".charAt(random.nextInt(4)));
                }
                int one = place(places);
                int other = place(places);
                while (other == one) {
                    other = place(places);
                }
                b.append(one).append(other).append(1 + random.nextInt(harms));
            }
            if (random.nextInt(12) == 0) {
                b.setLength(random.nextInt(b.length() + 1));
            }
            if (b.length() > 0 && random.nextInt(12) == 0) {
                b.setCharAt(random.nextInt(b.length()), "0123456789:,fbdgx".charAt(random.nextInt(17)));
            }
            return b.toString();
        }

        /** Few places, the goal always among them. */
        private int place(int places) {
            int place = random.nextInt(places);
            return place == places - 1 ? 5 : place;
        }

        private int some(int below) {
            int kind = random.nextInt(40);
            if (kind == 0) {
                return -1;
            }
            if (kind == 1) {
                return below;
            }
            if (kind == 2) {
                return random.nextInt();
            }
            return random.nextInt(below);
        }

        private int aPilgrim() {
            return some(Math.max(1, m.pilgrims.size()));
        }

        private int aRoad() {
            return some(Math.max(1, m.roads.size()));
        }

        /** A road where he is, if there is one: else too few walks are done. */
        private int aRoadFor(int pilgrim) {
            if (pilgrim >= 0 && pilgrim < m.pilgrims.size() && random.nextInt(5) > 0) {
                for (int i = 0; i < 20; i++) {
                    int road = random.nextInt(m.roads.size());
                    if (m.roads.get(road).has(m.pilgrims.get(pilgrim).place)) {
                        return road;
                    }
                }
            }
            return aRoad();
        }

        private void call(int which) {
            if (which < 11) {
                callOften(which);
            } else if (which < 22) {
                callOfRoads(which);
            } else {
                callOfAll(which);
            }
        }

        private void callOften(int which) {
            int p = aPilgrim();
            int q = aPilgrim();
            int r = aRoadFor(p);
            if (which < 6) {
                both("walk(" + p + ", " + r + ")", x.walk(p, r), m.walk(p, r));
            } else if (which < 8) {
                both("together(" + p + ", " + q + ", " + r + ")", x.together(p, q, r), m.together(p, q, r));
            } else if (which < 9) {
                both("rest(" + p + ")", x.rest(p), m.rest(p));
            } else {
                both("enter(" + p + ")", x.enter(p), m.enter(p));
            }
        }

        private void callOfRoads(int which) {
            int p = aPilgrim();
            int r = aRoad();
            int v = some(10);
            boolean is = random.nextBoolean();
            switch (which) {
                case 11: both("letter(" + v + ")", x.letter(v), m.letter(v)); break;
                case 12: both("fault()", x.fault(), m.fault()); break;
                case 13: both("road(" + r + ", " + v + ")", x.road(r, v), m.road(r, v)); break;
                case 14: both("as(" + r + ", " + v + ")", x.as(r, v), m.as(r, v)); break;
                case 15: both("worsen(" + r + ", " + v + ")", x.worsen(r, v), m.worsen(r, v)); break;
                case 16: both("licence(" + r + ", " + is + ")", x.licence(r, is), m.licence(r, is)); break;
                case 17: both("pilgrim()", x.pilgrim(), m.pilgrim()); break;
                case 18:
                    int what = some(18);
                    both("about(" + p + ", " + what + ")", x.about(p, what), m.about(p, what));
                    break;
                case 19:
                    if (random.nextInt(3) == 0) {
                        both("image()", x.image(), m.image());
                    }
                    break;
                case 20:
                    if (random.nextInt(3) == 0) {
                        both("restore()", x.restore(), m.restore());
                    }
                    break;
                default: both("count(" + v + ")", x.count(v), m.count(v)); break;
            }
        }

        private void callOfAll(int which) {
            int p = aPilgrim();
            switch (which) {
                case 22:
                    int what = some(3);
                    both("way(" + p + ", " + what + ")", x.way(p, what), m.way(p, what));
                    break;
                case 23: both("bars(" + p + ")", x.bars(p), m.bars(p)); break;
                case 24:
                    int harm = some(61);
                    both("most(" + p + ", " + harm + ")", x.most(p, harm), m.most(p, harm));
                    break;
                case 25: both("bridge(" + p + ")", x.bridge(p), m.bridge(p)); break;
                case 26:
                    int place = random.nextBoolean() ? -1 : some(6);
                    both("log(" + place + ")", x.log(place), m.log(place));
                    break;
                case 27:
                    if (random.nextInt(6) == 0) {
                        both("forget()", x.forget(), m.forget());
                    }
                    break;
                case 28: both("walks()", x.walks(), m.walks()); break;
                case 29:
                    int halves = random.nextBoolean() ? some(20) : some(61);
                    both("walksBy(" + halves + ")", x.walksBy(halves), m.walksBy(halves));
                    break;
                case 30: both("last()", x.last(), m.last()); break;
                default:
                    int months = 1 + some(60);
                    int seed = random.nextInt() >>> (random.nextInt(20) == 0 ? 0 : 1);
                    int told = some(4);
                    String call = "months(" + months + ", " + seed + ", " + told + ")";
                    both(call, x.months(months, seed, told), m.months(months, seed, told));
                    break;
            }
        }
    }

    private static final class Road {
        char letter;
        int a;
        int b;
        int harm;
        boolean licence = true;

        Road(char letter, int a, int b, int harm) {
            this.letter = letter;
            this.a = a;
            this.b = b;
            this.harm = harm;
        }

        Road copy() {
            Road r = new Road(letter, a, b, harm);
            r.licence = licence;
            return r;
        }

        boolean has(int place) {
            return a == place || b == place;
        }

        int kind() {
            return " fbdg".indexOf(letter);
        }

        int worth() {
            return letter == 'g' && !licence ? 0 : new int[] {2, 0, 1, 4, 4}[kind()];
        }
    }

    private static final class Pilgrim {
        int place = 0;
        int hurt = 0;
        int counted = 0;
        int done = 0;
        boolean in = false;
        int[] known = new int[9];

        Pilgrim copy() {
            Pilgrim p = new Pilgrim();
            p.place = place;
            p.hurt = hurt;
            p.counted = counted;
            p.done = done;
            p.in = in;
            p.known = known.clone();
            return p;
        }

        boolean may(Road r, int harm) {
            return !in && r.has(place) && hurt + harm <= 99;
        }

        void walk(Road r, int index, int harm, int worth) {
            place = r.a + r.b - place;
            hurt += harm;
            done++;
            if (known[index] < r.harm) {
                counted += worth;
                known[index] = r.harm;
            }
        }
    }

    /** The document's calls, in the plainest way. */
    private static final class Model {
        private static final int NONE = -1, UNKNOWN = -101, OUTSIDE = -102, STATE = -103, FULL = -104;
        String page = "";
        int need = 0;
        List<Road> roads = new ArrayList<>();
        List<Pilgrim> pilgrims = new ArrayList<>();
        List<Integer> log = new ArrayList<>();
        int months = 0;
        int reads = 0;
        int asked = 0;
        Model kept = null;

        int letter(int code) {
            if (code < 1 || code > 126) {
                return OUTSIDE;
            }
            if (page.length() == 44) {
                return FULL;
            }
            page += (char) code;
            return page.length();
        }

        int blank() {
            int had = page.length();
            page = "";
            return had;
        }

        static boolean isText(String text) {
            if (!text.matches("(0[1-9]|[1-5][0-9]|60):[fbdg]?[0-5][0-5][1-9](,[fbdg]?[0-5][0-5][1-9]){0,7}")) {
                return false;
            }
            for (String road : text.substring(3).split(",")) {
                String digits = road.replaceAll("[a-z]", "");
                if (digits.charAt(0) == digits.charAt(1)) {
                    return false;
                }
            }
            return true;
        }

        /** A prefix is fine, if one of few endings makes it a text. */
        static boolean isBeginning(String text) {
            String[] endings = {"", "1", "01", "051", "151", "51", ":051", "1:051", "0:051", "01:051"};
            for (String ending : endings) {
                if (isText(text + ending)) {
                    return true;
                }
            }
            return false;
        }

        int fault() {
            for (int i = 0; i < page.length(); i++) {
                if (!isBeginning(page.substring(0, i + 1))) {
                    return i;
                }
            }
            return page.length();
        }

        int roads() {
            if (!isText(page)) {
                return STATE;
            }
            need = Integer.parseInt(page.substring(0, 2));
            roads = new ArrayList<>();
            for (String road : page.substring(3).split(",")) {
                String full = road.length() == 3 ? " " + road : road;
                roads.add(new Road(full.charAt(0), full.charAt(1) - '0', full.charAt(2) - '0', full.charAt(3) - '0'));
            }
            pilgrims = new ArrayList<>();
            log = new ArrayList<>();
            months = 0;
            page = "";
            reads++;
            kept = null;
            return roads.size();
        }

        boolean noRoad(int r) {
            return r < 0 || r >= roads.size();
        }

        boolean noPilgrim(int p) {
            return p < 0 || p >= pilgrims.size();
        }

        int road(int road, int what) {
            if (noRoad(road)) {
                return UNKNOWN;
            }
            if (what < 0 || what > 5) {
                return OUTSIDE;
            }
            Road r = roads.get(road);
            return new int[] {r.kind(), r.a, r.b, r.harm, r.worth(), r.licence ? 1 : 0}[what];
        }

        int as(int road, int kind) {
            if (noRoad(road)) {
                return UNKNOWN;
            }
            if (kind < 0 || kind > 4) {
                return OUTSIDE;
            }
            int is = roads.get(road).kind();
            boolean fits = kind == 0 || is == kind || is == 4 && kind == 3;
            return fits ? road : NONE;
        }

        int worsen(int road, int v) {
            if (noRoad(road)) {
                return UNKNOWN;
            }
            if (v < 1 || v > 9) {
                return OUTSIDE;
            }
            int was = roads.get(road).harm;
            roads.get(road).harm = v;
            return was;
        }

        int licence(int road, boolean is) {
            if (noRoad(road)) {
                return UNKNOWN;
            }
            int was = roads.get(road).licence ? 1 : 0;
            roads.get(road).licence = is;
            return was;
        }

        int pilgrim() {
            if (roads.isEmpty()) {
                return STATE;
            }
            if (pilgrims.size() == 4) {
                return FULL;
            }
            pilgrims.add(new Pilgrim());
            return pilgrims.size() - 1;
        }

        int about(int pilgrim, int what) {
            if (noPilgrim(pilgrim)) {
                return UNKNOWN;
            }
            Pilgrim p = pilgrims.get(pilgrim);
            if (what >= 10 && what <= 17) {
                return p.known[what - 10];
            }
            if (what < 0 || what > 4) {
                return OUTSIDE;
            }
            return new int[] {p.place, p.hurt, p.counted, p.in ? 1 : 0, p.done}[what];
        }

        int walk(int pilgrim, int road) {
            if (noPilgrim(pilgrim) || noRoad(road)) {
                return UNKNOWN;
            }
            Pilgrim p = pilgrims.get(pilgrim);
            Road r = roads.get(road);
            if (!p.may(r, r.harm)) {
                return STATE;
            }
            p.walk(r, road, r.harm, r.worth());
            months++;
            return p.place;
        }

        int together(int a, int b, int road) {
            if (noPilgrim(a) || noPilgrim(b) || a == b || noRoad(road)) {
                return UNKNOWN;
            }
            Pilgrim p = pilgrims.get(a);
            Pilgrim q = pilgrims.get(b);
            Road r = roads.get(road);
            int half = r.harm / 2 + r.harm % 2;
            if (p.place != q.place || !p.may(r, half) || !q.may(r, half)) {
                return STATE;
            }
            p.walk(r, road, half, r.worth());
            q.walk(r, road, half, r.worth() / 2);
            months++;
            return q.place;
        }

        int rest(int pilgrim) {
            if (noPilgrim(pilgrim)) {
                return UNKNOWN;
            }
            Pilgrim p = pilgrims.get(pilgrim);
            if (p.in) {
                return STATE;
            }
            p.hurt = p.hurt < 5 ? 0 : p.hurt - 5;
            months++;
            return p.hurt;
        }

        int enter(int pilgrim) {
            if (noPilgrim(pilgrim)) {
                return UNKNOWN;
            }
            Pilgrim p = pilgrims.get(pilgrim);
            if (p.in || p.place != 5) {
                return STATE;
            }
            p.in = p.counted == need;
            return need - p.counted;
        }

        boolean mayNotAsk(int pilgrim) {
            return pilgrims.get(pilgrim).in || asked >= 24;
        }

        int way(int pilgrim, int what) {
            if (noPilgrim(pilgrim)) {
                return UNKNOWN;
            }
            if (what < 0 || what > 2) {
                return OUTSIDE;
            }
            if (mayNotAsk(pilgrim)) {
                return STATE;
            }
            asked++;
            int[] way = bestWay(roads, pilgrims.get(pilgrim));
            return way == null ? NONE : way[what];
        }

        int bars(int pilgrim) {
            if (noPilgrim(pilgrim)) {
                return UNKNOWN;
            }
            if (mayNotAsk(pilgrim)) {
                return STATE;
            }
            asked++;
            Pilgrim p = pilgrims.get(pilgrim);
            if (bestWay(roads, p) == null) {
                return NONE;
            }
            for (int i = 0; i < roads.size(); i++) {
                List<Road> fewer = new ArrayList<>(roads);
                fewer.set(i, new Road(' ', -1, -1, 1));
                if (bestWay(fewer, p) == null) {
                    return i;
                }
            }
            return NONE;
        }

        int most(int pilgrim, int harm) {
            if (noPilgrim(pilgrim)) {
                return UNKNOWN;
            }
            if (harm < 0 || harm > 60) {
                return OUTSIDE;
            }
            if (mayNotAsk(pilgrim)) {
                return STATE;
            }
            asked++;
            Pilgrim p = pilgrims.get(pilgrim);
            int most = p.counted;
            for (Step step : steps(roads, p)) {
                if (step.harm <= harm) {
                    most = Math.max(most, step.then.counted);
                }
            }
            return most;
        }

        int bridge(int pilgrim) {
            if (noPilgrim(pilgrim)) {
                return UNKNOWN;
            }
            if (mayNotAsk(pilgrim)) {
                return STATE;
            }
            asked++;
            Pilgrim p = pilgrims.get(pilgrim);
            int[] asIs = bestWay(roads, p);
            int least = asIs == null ? 1000 : asIs[0];
            int best = NONE;
            for (int a = 0; a < 6; a++) {
                for (int b = a + 1; b < 6; b++) {
                    List<Road> more = new ArrayList<>(roads);
                    more.add(new Road(' ', a, b, 1));
                    int[] way = bestWay(more, p);
                    if (way != null && way[0] < least) {
                        least = way[0];
                        best = 6 * a + b;
                    }
                }
            }
            return best;
        }

        private static final class Step {
            final Pilgrim then;
            final int harm;
            final int walks;
            final int first;

            Step(Pilgrim then, int harm, int walks, int first) {
                this.then = then;
                this.harm = harm;
                this.walks = walks;
                this.first = first;
            }
        }

        /** What he can come to, each by the best row of walks, the best first. */
        private static List<Step> steps(List<Road> roads, Pilgrim start) {
            PriorityQueue<Step> open = new PriorityQueue<>((s, t) -> s.harm != t.harm ? s.harm - t.harm
                : s.walks != t.walks ? s.walks - t.walks : s.first - t.first);
            Set<String> seen = new HashSet<>();
            List<Step> all = new ArrayList<>();
            open.add(new Step(start, 0, 0, NONE));
            while (!open.isEmpty()) {
                Step step = open.poll();
                if (!seen.add(step.then.place + Arrays.toString(step.then.known))) {
                    continue;
                }
                all.add(step);
                for (int i = 0; i < roads.size(); i++) {
                    Road r = roads.get(i);
                    if (step.then.may(r, r.harm)) {
                        Pilgrim then = step.then.copy();
                        then.walk(r, i, r.harm, r.worth());
                        open.add(new Step(then, step.harm + r.harm, step.walks + 1, step.walks == 0 ? i : step.first));
                    }
                }
            }
            return all;
        }

        private int[] bestWay(List<Road> on, Pilgrim p) {
            for (Step step : steps(on, p)) {
                if (step.then.place == 5 && step.then.counted == need) {
                    return new int[] {step.harm, step.walks, step.first};
                }
            }
            return null;
        }

        int log(int place) {
            if (place < -1 || place > 5) {
                return UNKNOWN;
            }
            if (log.size() == 7) {
                return FULL;
            }
            log.add(place);
            return log.size();
        }

        int forget() {
            int had = log.size();
            log = new ArrayList<>();
            return had;
        }

        /** How many rows there are by what was counted and the road that did it last: "halves/road". */
        private Map<String, Integer> rows() {
            Map<String, Integer> rows = new HashMap<>();
            tryOut(0, 0, new boolean[roads.size()], 0, NONE, rows);
            return rows;
        }

        private void tryOut(int month, int place, boolean[] met, int halves, int last, Map<String, Integer> rows) {
            if (month == log.size()) {
                rows.merge(halves + "/" + last, 1, Integer::sum);
                return;
            }
            for (int i = 0; i < roads.size(); i++) {
                Road r = roads.get(i);
                if (!r.has(place)) {
                    continue;
                }
                int then = r.a + r.b - place;
                if (log.get(month) >= 0 && log.get(month) != then) {
                    continue;
                }
                boolean wasMet = met[i];
                met[i] = true;
                boolean counts = !wasMet && r.worth() > 0;
                tryOut(month + 1, then, met, halves + (wasMet ? 0 : r.worth()), counts ? i : last, rows);
                met[i] = wasMet;
            }
        }

        int walks() {
            return roads.isEmpty() ? STATE : rows().values().stream().mapToInt(n -> n).sum();
        }

        int walksBy(int halves) {
            if (halves < 0 || halves > 60) {
                return OUTSIDE;
            }
            if (roads.isEmpty()) {
                return STATE;
            }
            int sum = 0;
            for (Map.Entry<String, Integer> row : rows().entrySet()) {
                if (row.getKey().startsWith(halves + "/")) {
                    sum += row.getValue();
                }
            }
            return sum;
        }

        int last() {
            if (roads.isEmpty()) {
                return STATE;
            }
            Set<String> lasts = new HashSet<>();
            for (String row : rows().keySet()) {
                lasts.add(row.split("/")[1]);
            }
            return lasts.size() == 1 ? Integer.parseInt(lasts.iterator().next()) : NONE;
        }

        int months(int howMany, int seed, int what) {
            if (howMany < 1 || howMany > 60 || seed < 0 || what < 0 || what > 3) {
                return OUTSIDE;
            }
            if (roads.isEmpty()) {
                return STATE;
            }
            Model dream = copy();
            long s = seed;
            for (int month = 0; month < howMany; month++) {
                for (int i = 0; i < pilgrims.size(); i++) {
                    if (!dream.pilgrims.get(i).in) {
                        s = (s * 1103515245L + 12345L) % (1L << 31);
                        int road = (int) (s / 65536 % roads.size());
                        if (dream.walk(i, road) == STATE) {
                            dream.rest(i);
                        }
                        dream.enter(i);
                    }
                }
            }
            int in = 0;
            int hurt = 0;
            int counted = 0;
            for (Pilgrim p : dream.pilgrims) {
                in += p.in ? 1 : 0;
                hurt += p.hurt;
                counted += p.counted;
            }
            return new int[] {in, hurt, counted, (int) s}[what];
        }

        private Model copy() {
            Model other = new Model();
            other.take(this);
            return other;
        }

        private void take(Model other) {
            need = other.need;
            months = other.months;
            log = new ArrayList<>(other.log);
            roads = new ArrayList<>();
            for (Road r : other.roads) {
                roads.add(r.copy());
            }
            pilgrims = new ArrayList<>();
            for (Pilgrim p : other.pilgrims) {
                pilgrims.add(p.copy());
            }
        }

        int image() {
            if (roads.isEmpty()) {
                return STATE;
            }
            kept = copy();
            return months;
        }

        int restore() {
            if (kept == null) {
                return STATE;
            }
            take(kept);
            return months;
        }

        int count(int what) {
            int in = 0;
            for (Pilgrim p : pilgrims) {
                in += p.in ? 1 : 0;
            }
            int[] counts = {
                roads.size(), need, pilgrims.size(), in, months, log.size(), page.length(), reads, asked
            };
            return what < 0 || what > 8 ? OUTSIDE : counts[what];
        }

        long digest() {
            List<Integer> told = new ArrayList<>();
            for (int i = 0; i < roads.size(); i++) {
                for (int what = 0; what < 6; what++) {
                    told.add(road(i, what));
                }
            }
            for (int i = 0; i < pilgrims.size(); i++) {
                for (int what = 0; what < 18; what++) {
                    if (what < 5 || what > 9) {
                        told.add(about(i, what));
                    }
                }
            }
            if (!roads.isEmpty()) {
                told.add(walks());
                told.add(walksBy(need));
                told.add(last());
            }
            for (char c : page.toCharArray()) {
                told.add((int) c);
            }
            for (int what = 0; what < 9; what++) {
                told.add(count(what));
            }
            long h = 761;
            for (int number : told) {
                h = h * 31 + number;
            }
            return h;
        }
    }
}
