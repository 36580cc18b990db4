import java.math.BigInteger;
import java.util.ArrayDeque;
import java.util.ArrayList;
import java.util.Collections;
import java.util.HashMap;
import java.util.List;
import java.util.Map;
import java.util.TreeSet;

/**
 * The document told once more, in the plainest way and with the Java library: lists that are copied
 * whole, searches that try everything. For RandomRunsTest alone.
 */
public final class PlainModel {
    private static final class Person {
        int slant;
        final int told;
        final int weight;

        Person(int slant, int told, int weight) {
            this.slant = slant;
            this.told = told;
            this.weight = weight;
        }
    }

    private static final class World {
        List<Person> people = new ArrayList<>();
        List<Integer> sitters = new ArrayList<>();
        TreeSet<Integer> propped = new TreeSet<>();
        int wind = 0;
        int year = 0;
        int x = 317;
        List<int[]> book = new ArrayList<>();
        List<World> steps = new ArrayList<>();
        int[] racks = new int[5];
        List<PlainText> texts = new ArrayList<>();
        int ruling = -1;
        TreeSet<Integer> barred = new TreeSet<>();
        List<Integer> words = new ArrayList<>();
        List<int[]> heard = new ArrayList<>();
        List<int[]> said = new ArrayList<>();

        World copy() {
            World w = new World();
            for (Person p : people) {
                w.people.add(new Person(p.slant, p.told, p.weight));
            }
            w.sitters.addAll(sitters);
            w.propped.addAll(propped);
            w.wind = wind;
            w.year = year;
            w.x = x;
            w.book.addAll(book);
            w.steps.addAll(steps);
            w.racks = racks.clone();
            w.texts.addAll(texts);
            w.ruling = ruling;
            w.barred.addAll(barred);
            w.words.addAll(words);
            w.heard.addAll(heard);
            w.said.addAll(said);
            return w;
        }

        int slantIn(long seat) {
            return seat < 0 || seat >= sitters.size() ? 0 : people.get(sitters.get((int) seat)).slant;
        }

        PlainText text() {
            return ruling < 0 ? null : texts.get(ruling);
        }

        int leans(int person, PlainText by) {
            Person p = people.get(person);
            if (by == null || by.leans == null) {
                return p.slant + Integer.signum(wind - p.slant);
            }
            int seat = sitters.indexOf(person);
            return (int) Math.max(-9, Math.min(9, by.leans.of(asked(person, Map.of(
                    "left", slantIn(seat - 1), "right", slantIn(seat + 1))))));
        }

        int hears(int ear, int from, int word) {
            PlainText by = text();
            int slant = people.get(from).slant;
            if (by == null || by.hears == null) {
                return word + slant - people.get(ear).slant;
            }
            return (int) Math.max(-999, Math.min(999, by.hears.of(asked(ear, Map.of("word", word, "from", slant)))));
        }

        PlainText.Asked asked(int person, Map<String, Integer> more) {
            return new PlainText.Asked() {
                @Override
                public long name(String name) {
                    return switch (name) {
                        case "year" -> year;
                        case "wind" -> wind;
                        case "weight" -> people.get(person).weight;
                        case "who" -> person;
                        case "slant" -> people.get(person).slant;
                        default -> more.get(name);
                    };
                }

                @Override
                public long slantIn(long seat) {
                    return World.this.slantIn(seat);
                }
            };
        }

        void draw() {
            wind = x % 19 - 9;
            x = (x * 577 + 449) % 30809;
        }

        int lean() {
            int straightened = 0;
            for (int seat = 0; seat < sitters.size(); seat++) {
                if (!propped.contains(seat)) {
                    int who = sitters.get(seat);
                    Person p = people.get(who);
                    int was = p.slant;
                    p.slant = leans(who, text());
                    if (p.slant == 0 && was != 0) {
                        straightened++;
                        book.add(new int[] {year, who, wind});
                        if (book.size() > 30) {
                            book.remove(0);
                        }
                    }
                }
            }
            return straightened;
        }

        int passYear() {
            draw();
            int straightened = lean();
            year++;
            return straightened;
        }

        void step() {
            World was = copy();
            was.steps.clear();
            steps.add(was);
            if (steps.size() > 30) {
                steps.remove(0);
            }
        }

        void turnAbout(int n) {
            Collections.reverse(sitters.subList(0, n));
            for (int who : sitters.subList(0, n)) {
                people.get(who).slant *= -1;
            }
        }

        List<Integer> slants() {
            List<Integer> all = new ArrayList<>();
            for (Person p : people) {
                all.add(p.slant);
            }
            return all;
        }
    }

    private World w = new World();
    private World imaged = new World();
    private List<Byte> tape = new ArrayList<>();
    private int fault = -1;
    private int place = -1;

    private boolean isPerson(int n) {
        return n >= 0 && n < w.people.size();
    }

    private static boolean slantwise(int n) {
        return n >= -9 && n <= 9;
    }

    public int person(int slant, int weight) {
        if (!slantwise(slant) || weight < 1 || weight > 9 || w.people.size() == 5) {
            return -1;
        }
        w.people.add(new Person(slant, slant, weight));
        w.sitters.add(w.people.size() - 1);
        return w.people.size() - 1;
    }

    public boolean rack(int seat, int rack) {
        if (seat < 0 || seat > 4 || !slantwise(rack)) {
            return false;
        }
        w.racks[seat] = rack;
        return true;
    }

    public int feed(int a, int b, int c, int d, int e) {
        if (tape.size() > 280) {
            return -1;
        }
        for (int four : new int[] {a, b, c, d, e}) {
            for (byte one : BigInteger.valueOf(four & 0xFFFFFFFFL).add(BigInteger.ONE.shiftLeft(32)).toByteArray()) {
                tape.add(one);
            }
            tape.remove(tape.size() - 5);
        }
        return tape.size();
    }

    public int end(int n) {
        if (n < 0 || n > tape.size()) {
            return -1;
        }
        tape = new ArrayList<>(tape.subList(0, n));
        return n;
    }

    public int text() {
        if (w.texts.size() == 4) {
            return -1;
        }
        byte[] bytes = new byte[tape.size()];
        for (int i = 0; i < bytes.length; i++) {
            bytes[i] = tape.get(i);
        }
        tape.clear();
        try {
            PlainText read = new PlainText(bytes);
            fault = 0;
            place = -1;
            w.texts.add(read);
            return w.texts.size() - 1;
        } catch (PlainText.Fault wrong) {
            fault = wrong.why;
            place = wrong.place;
            return -1;
        }
    }

    public int fault(int what) {
        return what == 0 ? fault : what == 1 ? place : -1;
    }

    public boolean by(int text) {
        if (text < -1 || text >= w.texts.size()) {
            return false;
        }
        w.ruling = text;
        return true;
    }

    public boolean swap(int a, int b) {
        if (!isPerson(a) || !isPerson(b) || a == b) {
            return false;
        }
        w.step();
        Collections.swap(w.sitters, a, b);
        return true;
    }

    public boolean turn(int n) {
        if (n < 1 || n > w.people.size()) {
            return false;
        }
        w.step();
        w.turnAbout(n);
        return true;
    }

    public boolean prop(int seat, boolean is) {
        if (!isPerson(seat) || w.propped.contains(seat) == is) {
            return false;
        }
        w.step();
        if (is) {
            w.propped.add(seat);
        } else {
            w.propped.remove(seat);
        }
        return true;
    }

    public int year(int n) {
        if (n < 1 || n > 60 || w.year > 9999 - n) {
            return -1;
        }
        int straightened = 0;
        for (int i = 0; i < n; i++) {
            w.step();
            straightened += w.passYear();
        }
        return straightened;
    }

    public int played(int text) {
        if (text < 0 || text >= w.texts.size()) {
            return -2;
        }
        List<String[]> clauses = w.texts.get(text).clauses;
        for (int i = 0; i < clauses.size(); i++) {
            String[] c = clauses.get(i);
            int a = c.length > 1 ? Integer.parseInt(c[1]) : 0;
            int b = c.length > 2 ? Integer.parseInt(c[2]) : 0;
            boolean could = switch (c[0]) {
                case "person" -> person(a - 9, b) >= 0;
                case "rack" -> rack(b, a - 9);
                case "swap" -> swap(a, b);
                case "turn" -> turn(a);
                case "prop" -> prop(a, true);
                case "free" -> prop(a, false);
                case "year" -> {
                    boolean all = true;
                    for (int y = 0; y < a; y++) {
                        all &= year(1) >= 0;
                    }
                    yield all;
                }
                default -> true;
            };
            if (!could) {
                return i;
            }
        }
        return -1;
    }

    public int ages(int seed, int n) {
        if (seed < 0 || seed > 9999 || n < 1 || n > 40) {
            return -1;
        }
        w.step();
        w.x = seed * 2 + 317;
        int many = w.people.size();
        for (int i = 0; i < n; i++) {
            int x = w.x;
            w.x = (x * 577 + 449) % 30809;
            if (x % 7 > 3) {
                if (w.year < 9999) {
                    w.passYear();
                }
            } else if (many > 0) {
                if (x % 7 == 0) {
                    Collections.swap(w.sitters, x % many, x / 7 % many);
                } else if (x % 7 == 1) {
                    w.turnAbout(1 + x / 7 % many);
                } else if (x % 7 == 2) {
                    w.propped.add(x % many);
                } else {
                    w.propped.remove(x % many);
                }
            }
        }
        return w.year;
    }

    public int undo() {
        if (w.steps.isEmpty()) {
            return -1;
        }
        World was = w.steps.remove(w.steps.size() - 1).copy();
        for (int p = was.people.size(); p < w.people.size(); p++) {
            Person since = w.people.get(p);
            was.people.add(new Person(since.told, since.told, since.weight));
            was.sitters.add(p);
        }
        w.people = was.people;
        w.sitters = was.sitters;
        w.propped = was.propped;
        w.wind = was.wind;
        w.year = was.year;
        w.x = was.x;
        w.book = was.book;
        return w.steps.size();
    }

    public int of(int person, int what) {
        if (!isPerson(person)) {
            return -100;
        }
        Person p = w.people.get(person);
        return switch (what) {
            case 0 -> p.slant;
            case 1 -> p.weight;
            case 2 -> w.sitters.indexOf(person);
            case 3 -> w.leans(person, w.text());
            default -> -100;
        };
    }

    public int seat(int seat, int what) {
        if (!isPerson(seat)) {
            return -100;
        }
        return switch (what) {
            case 0 -> w.sitters.get(seat);
            case 1 -> w.racks[seat];
            case 2 -> w.propped.contains(seat) ? 1 : 0;
            default -> -100;
        };
    }

    public int hears(int ear, int from, int word) {
        return isPerson(ear) && isPerson(from) && word >= 0 && word <= 99 ? w.hears(ear, from, word) : -10000;
    }

    private static int bits(Iterable<Integer> all) {
        int sum = 0;
        for (int one : all) {
            sum += 1 << one;
        }
        return sum;
    }

    public int is(int what) {
        return switch (what) {
            case 0 -> w.year;
            case 1 -> w.x;
            case 2 -> w.wind;
            case 3 -> bits(w.propped);
            default -> -100;
        };
    }

    public int book(int i, int what) {
        if (i == -1) {
            return w.book.size();
        }
        return i < 0 || i >= w.book.size() || what < 0 || what > 2 ? -100 : w.book.get(i)[what];
    }

    public int foretold(int n, int person) {
        if (n < 1 || n > 60 || !isPerson(person)) {
            return -100;
        }
        World later = w.copy();
        for (int i = 0; i < n; i++) {
            if (later.year < 9999) {
                later.passYear();
            }
        }
        return later.people.get(person).slant;
    }

    public int still(int wind, boolean cycle) {
        if (!slantwise(wind)) {
            return -1;
        }
        World later = w.copy();
        later.wind = wind;
        List<List<Integer>> seen = new ArrayList<>();
        while (seen.size() <= 200) {
            List<Integer> now = later.slants();
            if (seen.contains(now)) {
                return cycle ? seen.size() - seen.indexOf(now) : seen.indexOf(now);
            }
            seen.add(now);
            later.lean();
        }
        return -1;
    }

    public int upright(int person, int wind) {
        if (!isPerson(person) || !slantwise(wind)) {
            return -1;
        }
        World later = w.copy();
        later.wind = wind;
        int years = 0;
        while (years <= 60 && later.people.get(person).slant != 0) {
            later.lean();
            years++;
        }
        return years > 60 ? -1 : years;
    }

    private static final Map<List<Integer>, List<Integer>> TURNS = new HashMap<>();

    /** The first way that a search from here comes upon, lower turns first; who is turned is told by 10 more. */
    private static List<Integer> turns(List<Integer> sitters) {
        List<Integer> aim = new ArrayList<>(sitters);
        Collections.sort(aim);
        Map<List<Integer>, List<Integer>> ways = new HashMap<>();
        ArrayDeque<List<Integer>> open = new ArrayDeque<>();
        ways.put(sitters, List.of());
        open.add(sitters);
        while (!ways.containsKey(aim)) {
            List<Integer> at = open.remove();
            for (int n = 1; n <= at.size(); n++) {
                List<Integer> next = new ArrayList<>(at);
                Collections.reverse(next.subList(0, n));
                for (int i = 0; i < n; i++) {
                    next.set(i, (next.get(i) + 10) % 20);
                }
                if (!ways.containsKey(next)) {
                    List<Integer> way = new ArrayList<>(ways.get(at));
                    way.add(n);
                    ways.put(next, way);
                    open.add(next);
                }
            }
        }
        return ways.get(aim);
    }

    public int byTurns(int i) {
        List<Integer> way = TURNS.computeIfAbsent(new ArrayList<>(w.sitters), PlainModel::turns);
        return i == -1 ? way.size() : i < 0 || i >= way.size() ? -2 : way.get(i);
    }

    private void seatOn(List<Integer> so, int cost, List<Integer> best, int[] least) {
        int seat = so.size();
        if (seat == w.people.size()) {
            if (best.isEmpty() || cost < least[0]) {
                best.clear();
                best.addAll(so);
                least[0] = cost;
            }
            return;
        }
        for (int p = 0; p < w.people.size(); p++) {
            if (!so.contains(p)) {
                List<Integer> more = new ArrayList<>(so);
                more.add(p);
                Person one = w.people.get(p);
                seatOn(more, cost + one.weight * Math.abs(one.slant - w.racks[seat]), best, least);
            }
        }
    }

    public int seats(boolean sum, int i) {
        if (w.people.isEmpty() || !sum && !isPerson(i)) {
            return -2;
        }
        List<Integer> best = new ArrayList<>();
        int[] least = new int[1];
        seatOn(List.of(), 0, best, least);
        return sum ? least[0] : best.get(i);
    }

    public int ragged(int i) {
        List<Integer> pairs = new ArrayList<>();
        for (int s = 1; s < w.sitters.size(); s++) {
            if (w.slantIn(s - 1) > 0 && w.slantIn(s) < 0) {
                pairs.add(s - 1);
            }
        }
        return i == -1 ? pairs.size() : i < 0 || i >= pairs.size() ? -2 : pairs.get(i);
    }

    private static int told(List<int[]> list, int most, boolean can, int[] one) {
        if (one[0] == -1) {
            list.clear();
            return 0;
        }
        if (!can || list.size() == most) {
            return -2;
        }
        list.add(one);
        return list.size();
    }

    public int word(int width) {
        List<int[]> list = new ArrayList<>();
        for (int word : w.words) {
            list.add(new int[] {word});
        }
        int answer = told(list, 10, width >= 1 && width <= 20, new int[] {width});
        w.words.clear();
        for (int[] one : list) {
            w.words.add(one[0]);
        }
        return answer;
    }

    /** All ways to break the words: for each the numbers of words in its lines. */
    private List<List<Integer>> breakings() {
        List<List<Integer>> all = new ArrayList<>();
        for (int set = 0; set < 1 << Math.max(0, w.words.size() - 1); set++) {
            List<Integer> counts = new ArrayList<>();
            int count = 0;
            for (int i = 0; i < w.words.size(); i++) {
                count++;
                if (i == w.words.size() - 1 || (set >> i & 1) == 1) {
                    counts.add(count);
                    count = 0;
                }
            }
            all.add(counts);
        }
        return all;
    }

    private List<Integer> widthsOf(List<Integer> counts) {
        List<Integer> widths = new ArrayList<>();
        int at = 0;
        for (int count : counts) {
            int width = count - 1;
            for (int word : w.words.subList(at, at + count)) {
                width += word;
            }
            widths.add(width);
            at += count;
        }
        return widths;
    }

    /** Badness, how many lines, then how many words in each; null if it can't be. */
    private List<Integer> best(int width) {
        if (width < 1 || width > 60) {
            return null;
        }
        if (w.words.isEmpty()) {
            return List.of(0, 0);
        }
        List<Integer> best = null;
        for (List<Integer> counts : breakings()) {
            List<Integer> widths = widthsOf(counts);
            if (Collections.max(widths) > width) {
                continue;
            }
            int bad = 0;
            for (int line : widths.subList(0, widths.size() - 1)) {
                bad += (width - line) * (width - line);
            }
            List<Integer> told = new ArrayList<>(List.of(bad, counts.size()));
            told.addAll(counts);
            if (best == null || before(told, best)) {
                best = told;
            }
        }
        return best;
    }

    private static boolean before(List<Integer> a, List<Integer> b) {
        for (int i = 0; i < Math.min(a.size(), b.size()); i++) {
            if (!a.get(i).equals(b.get(i))) {
                return a.get(i) < b.get(i);
            }
        }
        return false;
    }

    public int page(int width, int what) {
        List<Integer> best = best(width);
        return best == null || what < 0 || what > 1 ? -1 : best.get(what);
    }

    public int line(int width, int i) {
        List<Integer> best = best(width);
        if (best == null || i < 0 || i >= best.get(1)) {
            return -1;
        }
        int word = 0;
        for (int count : best.subList(2, 2 + i)) {
            word += count;
        }
        return word;
    }

    public int narrowest(int lines) {
        if (lines < 1 || lines > 10 || w.words.isEmpty()) {
            return -1;
        }
        int least = Integer.MAX_VALUE;
        for (List<Integer> counts : breakings()) {
            if (counts.size() <= lines) {
                least = Math.min(least, Collections.max(widthsOf(counts)));
            }
        }
        return least;
    }

    public int heard(int ear, int as) {
        return told(w.heard, 6, isPerson(ear) && as >= -999 && as <= 999, new int[] {ear, as});
    }

    private List<Integer> pairs(int err) {
        List<Integer> pairs = new ArrayList<>();
        for (int pair = 0; pair < 100 * w.people.size(); pair++) {
            int at = pair;
            if (w.heard.stream().allMatch(h -> Math.abs(w.hears(h[0], at / 100, at % 100) - h[1]) <= err)) {
                pairs.add(pair);
            }
        }
        return pairs;
    }

    public int meant(int err, int what) {
        if (err < 0 || err > 9 || what < 0 || what > 1) {
            return -1;
        }
        List<Integer> pairs = pairs(err);
        return what == 0 ? pairs.size() : pairs.isEmpty() ? -1 : pairs.get(0);
    }

    public int listen(int err) {
        if (err < 0 || err > 9) {
            return -1;
        }
        List<Integer> pairs = pairs(err);
        if (pairs.size() <= 1) {
            return -1;
        }
        List<Integer> worst = new ArrayList<>();
        for (int p = 0; p < w.people.size(); p++) {
            Map<Integer, Integer> many = new HashMap<>();
            for (int pair : pairs) {
                many.merge(w.hears(p, pair / 100, pair % 100), 1, Integer::sum);
            }
            worst.add(Collections.max(many.values()));
        }
        return worst.indexOf(Collections.min(worst));
    }

    public boolean bar(int seat, boolean is) {
        if (seat < 0 || seat > 4) {
            return false;
        }
        if (is) {
            w.barred.add(seat);
        } else {
            w.barred.remove(seat);
        }
        return true;
    }

    public int props(boolean many) {
        int seats = w.people.size();
        for (int size = 0; size <= seats; size++) {
            for (int set = 0; set < 1 << seats; set++) {
                boolean fits = Integer.bitCount(set) == size;
                for (int s = 0; s < seats; s++) {
                    boolean here = (set >> s & 1) == 1;
                    boolean beside = s > 0 && (set >> s - 1 & 1) == 1 || s + 1 < seats && (set >> s + 1 & 1) == 1;
                    fits &= (here || beside) && !(here && w.barred.contains(s));
                }
                if (fits) {
                    return many ? size : set;
                }
            }
        }
        return -1;
    }

    private static final Map<List<Integer>, BigInteger> WAYS = new HashMap<>();

    private static BigInteger ways(int from, int n, int to, boolean first) {
        if (n == 0) {
            return from == to ? BigInteger.ONE : BigInteger.ZERO;
        }
        if (first && from == 0) {
            return BigInteger.ZERO;
        }
        List<Integer> key = List.of(from, n, to, first ? 1 : 0);
        BigInteger known = WAYS.get(key);
        if (known == null) {
            known = BigInteger.ZERO;
            for (int by = -1; by <= 1; by++) {
                known = known.add(ways(Math.max(-9, Math.min(9, from + by)), n - 1, to, first));
            }
            WAYS.put(key, known);
        }
        return known;
    }

    private static long odds(int from, int n, int to, boolean first, boolean low) {
        if (!slantwise(from) || !slantwise(to) || n < 0 || n > 20) {
            return -1;
        }
        BigInteger upper = ways(from, n, to, first);
        BigInteger lower = BigInteger.valueOf(3).pow(n);
        return (low ? lower : upper).divide(upper.gcd(lower)).longValueExact();
    }

    public long likely(int from, int n, int to, boolean low) {
        return odds(from, n, to, false, low);
    }

    public long first(int from, int n, boolean low) {
        return odds(from, n, 0, true, low);
    }

    public int median() {
        List<Integer> slants = w.slants();
        Collections.sort(slants);
        return slants.isEmpty() ? -100 : slants.get((slants.size() - 1) / 2);
    }

    public int spread() {
        List<Integer> slants = w.slants();
        return slants.isEmpty() ? 0 : Collections.max(slants) - Collections.min(slants);
    }

    private static final Map<List<Integer>, Boolean> WINS = new HashMap<>();

    private static boolean wins(int a, int b) {
        Boolean known = WINS.get(List.of(a, b));
        if (known == null) {
            known = false;
            for (int k = 1; k <= 3; k++) {
                known |= k <= a && !wins(a - k, b) || k <= b && !wins(a, b - k);
            }
            WINS.put(List.of(a, b), known);
        }
        return known;
    }

    public int quarrel(int a, int b) {
        if (!isPerson(a) || !isPerson(b) || a == b) {
            return -1;
        }
        return wins(Math.abs(w.people.get(a).slant), Math.abs(w.people.get(b).slant)) ? 1 : 0;
    }

    public int said(int person, int leans) {
        return told(w.said, 8, isPerson(person) && slantwise(leans), new int[] {person, leans});
    }

    public int whose() {
        List<Integer> all = new ArrayList<>();
        for (int t = 0; t < w.texts.size(); t++) {
            PlainText text = w.texts.get(t);
            if (w.said.stream().allMatch(s -> w.leans(s[0], text) == s[1])) {
                all.add(t);
            }
        }
        return bits(all);
    }

    public int straight() {
        List<Integer> all = new ArrayList<>();
        for (int p = 0; p < w.people.size(); p++) {
            if (w.people.get(p).slant == 0) {
                all.add(p);
            }
        }
        return bits(all);
    }

    public int steepest() {
        List<Integer> far = new ArrayList<>();
        for (int slant : w.slants()) {
            far.add(Math.abs(slant));
        }
        return far.isEmpty() || Collections.max(far) == 0 ? -1 : far.indexOf(Collections.max(far));
    }

    public int ledger(int person) {
        if (person != -1 && !isPerson(person)) {
            return -2;
        }
        return (int) w.book.stream().filter(b -> person == -1 || b[1] == person).count();
    }

    public int image() {
        imaged = w.copy();
        return w.year;
    }

    public int back() {
        w = imaged.copy();
        return w.year;
    }

    public int about(int what) {
        return switch (what) {
            case 0 -> w.people.size();
            case 1 -> w.texts.size();
            case 2 -> w.ruling;
            case 3 -> w.steps.size();
            case 4 -> w.words.size();
            case 5 -> w.heard.size();
            case 6 -> w.said.size();
            case 7 -> tape.size();
            default -> -2;
        };
    }
}
