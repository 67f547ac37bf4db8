import java.util.ArrayDeque;
import java.util.ArrayList;
import java.util.Arrays;
import java.util.Deque;
import java.util.HashMap;
import java.util.HashSet;
import java.util.List;
import java.util.Map;
import java.util.Set;
import java.util.TreeSet;

/** The whole document in its plainest form, as a yardstick for RunsTest: no care for speed, thoughts by trying. */
final class PlainRegiment {
    static final int NONE = -1;

    static final class Man {
        int height, wear, loose, rank, post, carpet, heard, failed, heardAtPromotion;

        Man copy() {
            Man m = new Man();
            m.height = height;
            m.wear = wear;
            m.loose = loose;
            m.rank = rank;
            m.post = post;
            m.carpet = carpet;
            m.heard = heard;
            m.failed = failed;
            m.heardAtPromotion = heardAtPromotion;
            return m;
        }
    }

    static final class House {
        List<List<Man>> flights = new ArrayList<>();
        List<int[]> book = new ArrayList<>();
        int salutes, creaks, night, state;

        House copy() {
            House h = new House();
            for (List<Man> flight : flights) {
                List<Man> men = new ArrayList<>();
                for (Man m : flight) {
                    men.add(m.copy());
                }
                h.flights.add(men);
            }
            h.book.addAll(book);
            h.salutes = salutes;
            h.creaks = creaks;
            h.night = night;
            h.state = state;
            return h;
        }
    }

    static final class Told {
        List<PlainText.LawLine> law = List.of();
        List<int[]> orders = List.of();
        List<int[]> visits = List.of();
        List<int[]> doors = List.of();
        List<int[]> suspects = new ArrayList<>();
        List<String> signers = new ArrayList<>();
        String drill = "01234567";
        List<Integer> numbers = new ArrayList<>();
        List<Integer> lengths = new ArrayList<>();
        List<Integer> walls = new ArrayList<>();
        List<Integer> digits = new ArrayList<>();
        int[] coins = new int[9];

        Told copy() {
            Told t = new Told();
            t.law = law;
            t.orders = orders;
            t.visits = visits;
            t.doors = doors;
            t.suspects.addAll(suspects);
            t.signers.addAll(signers);
            t.drill = drill;
            t.numbers.addAll(numbers);
            t.lengths.addAll(lengths);
            t.walls.addAll(walls);
            t.digits.addAll(digits);
            t.coins = coins.clone();
            return t;
        }
    }

    House house = new House();
    Told told = new Told();
    House imageHouse;
    Told imageTold;
    Deque<House> undos = new ArrayDeque<>();
    StringBuilder tape = new StringBuilder();
    int faultKind = 0;
    int faultPlace = NONE;
    boolean thought;

    private static boolean in(int v, int low, int high) {
        return low <= v && v <= high;
    }

    private List<Man> men(int flight) {
        return in(flight, 0, house.flights.size() - 1) ? house.flights.get(flight) : null;
    }

    private Man man(int flight, int step) {
        List<Man> men = men(flight);
        return men != null && in(step, 0, men.size() - 1) ? men.get(step) : null;
    }

    /** How many STEPS a FLIGHT has; 0 without such a FLIGHT. */
    int stepsOf(int flight) {
        List<Man> men = men(flight);
        return men == null ? 0 : men.size();
    }

    private void keep() {
        undos.push(house.copy());
        if (undos.size() > 6) {
            undos.removeLast();
        }
    }

    public int state(int v) {
        int was = house.state;
        house.state = v;
        undos.clear();
        return was;
    }

    public int flight(int steps, int height) {
        if (!in(steps, 1, 16) || !in(height, 5, 40) || house.flights.size() == 6) {
            return NONE;
        }
        undos.clear();
        List<Man> men = new ArrayList<>();
        for (int i = 0; i < steps; i++) {
            Man m = new Man();
            m.height = height;
            men.add(m);
        }
        house.flights.add(men);
        return house.flights.size() - 1;
    }

    public boolean set(int what, int flight, int step, int v) {
        Man m = man(flight, step);
        if (m == null) {
            return false;
        }
        if (what == 0 && in(v, 5, 40)) {
            m.height = v;
        } else if (what == 1 && in(v, 0, 99)) {
            m.wear = v;
        } else if (what == 2 && in(v, 0, 9)) {
            m.loose = v;
        } else if (what == 3 && in(v, 0, 9)) {
            m.rank = v;
        } else {
            return false;
        }
        undos.clear();
        return true;
    }

    private void obey(int what, Man m) {
        if (what <= 2) {
            m.post = what;
        } else if (what <= 4) {
            m.carpet = what == 3 ? 1 : 0;
        } else {
            m.loose = what == 5 ? 0 : Math.min(9, m.loose + 1);
        }
    }

    public boolean order(int what, int flight, int step) {
        Man m = man(flight, step);
        if (m == null || !in(what, 0, 6)) {
            return false;
        }
        keep();
        obey(what, m);
        return true;
    }

    private int law(String word, int flight, int step, Man m, int weight, int stride) {
        Map<String, Integer> facts = new HashMap<>();
        facts.put("weight", weight);
        facts.put("stride", stride);
        facts.put("wear", m.wear);
        facts.put("loose", m.loose);
        facts.put("rank", m.rank);
        facts.put("carpet", m.carpet);
        facts.put("height", m.height);
        facts.put("number", step);
        facts.put("heard", m.heard);
        facts.put("failed", m.failed);
        facts.put("night", house.night);
        int most = word.equals("creaks") ? 1000 : word.equals("wears") ? 99 : 9;
        int v = word.equals("creaks") ? weight + 5 * m.wear + 50 * m.loose - 300 * m.carpet : 1;
        for (PlainText.LawLine line : told.law) {
            if (line.word().equals(word) && (line.when() == null || line.when().of(facts))) {
                v = line.sum().of(facts);
                break;
            }
        }
        return Math.max(0, Math.min(most, v));
    }

    private void write(int what, int flight, int step, int much) {
        if (!thought && house.book.size() < 150) {
            house.book.add(new int[] {house.night, what, 100 * flight + step, much});
        }
    }

    private int draw(int m) {
        house.state = 1664525 * house.state + 1013904223;
        return (int) ((house.state & 0xffffffffL) / 256 % m);
    }

    private int tread(int flight, int step, int weight, int stride) {
        Man m = man(flight, step);
        if (m.post == 2) {
            house.salutes++;
            write(2, flight, step, 0);
            return 0;
        }
        int creaks = law("creaks", flight, step, m, weight, stride);
        boolean does = thought ? creaks >= 500 : creaks > 0 && draw(1000) < creaks;
        if (does) {
            house.creaks++;
            write(0, flight, step, weight);
            if (m.post == 0) {
                m.heard++;
            }
        } else if (m.post == 0) {
            m.failed++;
            write(1, flight, step, weight);
        }
        m.wear = Math.min(99, m.wear + law("wears", flight, step, m, weight, stride));
        return does ? 1 : 0;
    }

    private int go(int flight, boolean up, int weight, int stride) {
        int n = men(flight).size();
        int creaked = 0;
        for (int i = 1; i <= n; i++) {
            int step = up ? i - 1 : n - i;
            boolean trodden = up ? i % stride == 0 : (i - 1) % stride == 0;
            if (trodden) {
                creaked += tread(flight, step, weight, stride);
            }
        }
        return creaked;
    }

    public int visit(int flight, boolean up, int weight, int stride) {
        if (men(flight) == null || !in(weight, 1, 200) || !in(stride, 1, 5)) {
            return NONE;
        }
        keep();
        return go(flight, up, weight, stride);
    }

    private int night() {
        int creaked = 0;
        for (int[] o : told.orders) {
            if (o[0] == house.night) {
                obey(o[3], man(o[1], o[2]));
            }
        }
        for (int[] v : told.visits) {
            if (v[0] == house.night) {
                creaked += go(v[1], v[2] == 1, v[3], v[4]);
            }
        }
        for (int f = 0; f < house.flights.size(); f++) {
            for (int s = 0; s < men(f).size(); s++) {
                Man m = man(f, s);
                if (m.heard >= m.heardAtPromotion + 3) {
                    m.rank = Math.min(9, m.rank + law("rises", f, s, m, 0, 0));
                    m.heardAtPromotion = m.heard;
                    write(3, f, s, m.rank);
                }
                if (m.failed > 5 && m.failed > m.heard && m.post != 2) {
                    m.post = 2;
                    write(4, f, s, m.failed);
                }
            }
        }
        house.night++;
        return creaked;
    }

    public int nights(int n) {
        if (!in(n, 1, 60) || house.night + n > 9999) {
            return NONE;
        }
        int creaked = 0;
        for (int i = 0; i < n; i++) {
            keep();
            creaked += night();
        }
        return creaked;
    }

    public int feed(int a, int b, int c, int d, int e) {
        if (tape.length() > 380) {
            return NONE;
        }
        for (int v : new int[] {a, b, c, d, e}) {
            tape.append((char) (v >>> 24)).append((char) (v >> 16 & 255)).append((char) (v >> 8 & 255)).append((char) (v & 255));
        }
        return tape.length();
    }

    public boolean end(int n) {
        if (!in(n, 0, tape.length())) {
            return false;
        }
        tape.setLength(n);
        return true;
    }

    public int text(int k) {
        List<Integer> sizes = new ArrayList<>();
        for (List<Man> men : house.flights) {
            sizes.add(men.size());
        }
        PlainText text = new PlainText(tape.toString(), sizes);
        tape.setLength(0);
        faultKind = 0;
        faultPlace = NONE;
        if (!in(k, 0, 3)) {
            return NONE;
        }
        try {
            if (k == 0) {
                told.law = text.law();
                return told.law.size();
            }
            List<int[]> lines = text.lines(k);
            if (k == 1) {
                told.orders = lines;
                undos.clear();
            } else if (k == 2) {
                told.visits = lines;
                undos.clear();
            } else {
                told.doors = lines;
            }
            return lines.size();
        } catch (PlainText.Fault f) {
            faultKind = f.kind;
            faultPlace = f.place;
            return NONE;
        }
    }

    public int fault(int what) {
        return what == 0 ? faultKind : what == 1 ? faultPlace : NONE;
    }

    public int of(int flight, int step, int what) {
        Man m = man(flight, step);
        if (m == null) {
            return NONE;
        }
        switch (what) {
            case 0: return m.height;
            case 1: return m.wear;
            case 2: return m.loose;
            case 3: return m.rank;
            case 4: return m.post;
            case 5: return m.carpet;
            case 6: return m.heard;
            case 7: return m.failed;
            case 8: return law("rises", flight, step, m, 0, 0);
            case 9:
                int n = 0;
                for (int[] d : told.doors) {
                    if (d[0] == flight && d[1] == step || d[2] == flight && d[3] == step) {
                        n++;
                    }
                }
                return n;
            default: return NONE;
        }
    }

    public int creaks(int flight, int step, int weight, int stride) {
        Man m = man(flight, step);
        return m == null || !in(weight, 1, 200) || !in(stride, 1, 5) ? NONE : law("creaks", flight, step, m, weight, stride);
    }

    public int wears(int flight, int step, int weight, int stride) {
        Man m = man(flight, step);
        return m == null || !in(weight, 1, 200) || !in(stride, 1, 5) ? NONE : law("wears", flight, step, m, weight, stride);
    }

    public int book(int i, int what) {
        return in(i, 0, house.book.size() - 1) && in(what, 0, 3) ? house.book.get(i)[what] : NONE;
    }

    public int goes(int n, int what) {
        if (!in(n, 1, 60) || !in(what, 0, 3)) {
            return NONE;
        }
        House was = house;
        house = house.copy();
        thought = true;
        for (int i = 0; i < n; i++) {
            night();
        }
        thought = false;
        int heard = 0, failed = 0, missing = 0;
        for (List<Man> men : house.flights) {
            for (Man m : men) {
                heard += m.heard;
                failed += m.failed;
                missing += m.post == 2 ? 1 : 0;
            }
        }
        int salutes = house.salutes;
        house = was;
        return new int[] {heard, failed, salutes, missing}[what];
    }

    public int unheard(int flight, int w, int s, int what) {
        List<Man> men = men(flight);
        if (men == null || !in(w, 1, 200) || !in(s, 1, 5) || !in(what, 0, 1)) {
            return NONE;
        }
        // all pairs (creaks, steps) with which he can stand on a place, place by place upwards
        int n = men.size();
        List<Set<Integer>> stand = new ArrayList<>();
        for (int i = 0; i <= n; i++) {
            stand.add(new TreeSet<>());
        }
        stand.get(0).add(0);
        TreeSet<Integer> through = new TreeSet<>();
        for (int from = 0; from <= n; from++) {
            for (int pair : stand.get(from)) {
                for (int k = 1; k <= s; k++) {
                    int to = from + k - 1;
                    if (to >= n) {
                        through.add(pair);
                    } else if (men.get(to).post != 2) {
                        boolean creaks = law("creaks", flight, to, men.get(to), w, k) >= 500;
                        stand.get(to + 1).add(pair + 1 + (creaks ? 1000 : 0));
                    }
                }
            }
        }
        if (through.isEmpty()) {
            return NONE;
        }
        return what == 0 ? through.first() / 1000 : through.first() % 1000;
    }

    public int suspect(int weight, int stride) {
        if (weight == NONE) {
            told.suspects.clear();
            return 0;
        }
        if (!in(weight, 1, 200) || !in(stride, 1, 5) || told.suspects.size() == 8) {
            return NONE;
        }
        told.suspects.add(new int[] {weight, stride});
        return told.suspects.size();
    }

    private int heardOf(int flight, int[] suspect) {
        int set = 0;
        for (int i = suspect[1] - 1; i < men(flight).size(); i += suspect[1]) {
            Man m = man(flight, i);
            if (m.post != 2 && law("creaks", flight, i, m, suspect[0], suspect[1]) >= 500) {
                set |= 1 << i;
            }
        }
        return set;
    }

    /** The set that one of the suspects would make creak, so that it can be asked who it was. */
    int heardOfAny(int flight, int which) {
        boolean isNone = men(flight) == null || told.suspects.isEmpty();
        return isNone ? which : heardOf(flight, told.suspects.get(which % told.suspects.size()));
    }

    public int who(int flight, int steps, int what) {
        List<Man> men = men(flight);
        if (men == null || !in(steps, 0, (1 << men.size()) - 1) || !in(what, 0, 1)) {
            return NONE;
        }
        int fits = 0;
        for (int i = 0; i < told.suspects.size(); i++) {
            fits |= heardOf(flight, told.suspects.get(i)) == steps ? 1 << i : 0;
        }
        if (what == 0) {
            return fits;
        }
        for (int s = 0; s < men.size(); s++) {
            int was = men.get(s).loose;
            men.get(s).loose = Math.min(9, was + 1);
            boolean some = false, others = false;
            for (int i = 0; i < told.suspects.size(); i++) {
                if ((fits >> i & 1) == 1) {
                    boolean creaks = (heardOf(flight, told.suspects.get(i)) >> s & 1) == 1;
                    some |= creaks;
                    others |= !creaks;
                }
            }
            men.get(s).loose = was;
            if (some && others) {
                return s;
            }
        }
        return NONE;
    }

    public int roster(int flight, int s, int what) {
        List<Man> men = men(flight);
        if (men == null || !in(s, 1, 5) || !in(what, 0, 1)) {
            return NONE;
        }
        int missing = 0;
        for (int i = 0; i < men.size(); i++) {
            missing |= men.get(i).post == 2 ? 1 << i : 0;
        }
        int best = NONE;
        for (int set = 0; set < 1 << men.size(); set++) {
            boolean can = (set & missing) == 0;
            for (int from = 0; from + s <= men.size() && can; from++) {
                int window = (1 << s) - 1 << from;
                can = (window & ~set & ~missing) != 0;
            }
            if (can && (best == NONE || Integer.bitCount(set) > Integer.bitCount(best))) {
                best = set;
            }
        }
        return best == NONE || what == 1 ? best : Integer.bitCount(best);
    }

    private static String row(int v, int digits) {
        if (v < 0) {
            return null;
        }
        String row = "" + v;
        if (row.length() == digits - 1) {
            row = "0" + row;
        }
        if (row.length() != digits) {
            return null;
        }
        for (int i = 0; i < digits; i++) {
            if (row.indexOf('0' + i) < 0) {
                return null;
            }
        }
        return row;
    }

    public int signer(int v) {
        if (v == NONE) {
            told.signers.clear();
            return 0;
        }
        String row = row(v, 4);
        if (row == null || told.signers.size() == 7) {
            return NONE;
        }
        told.signers.add(row);
        return told.signers.size();
    }

    private int before(int a, int b) {
        int n = 0;
        for (String row : told.signers) {
            n += row.indexOf('0' + a) < row.indexOf('0' + b) ? 1 : 0;
        }
        return n;
    }

    public int signs(int what) {
        int n = told.signers.size();
        int best = 15, wins = NONE, same = 0;
        for (int set = 15; set >= 1; set--) {
            boolean is = true;
            for (int a = 0; a < 4; a++) {
                for (int b = 0; b < 4; b++) {
                    if ((set >> a & 1) == 1 && (set >> b & 1) == 0 && before(a, b) * 2 <= n) {
                        is = false;
                    }
                }
            }
            if (is && Integer.bitCount(set) <= Integer.bitCount(best)) {
                best = set;
            }
            if (is && Integer.bitCount(set) == 1) {
                wins = Integer.numberOfTrailingZeros(set);
            }
        }
        for (int a = 0; a < 4; a++) {
            for (int b = 0; b < a; b++) {
                same += n > 0 && (before(a, b) == n || before(b, a) == n) ? 1 : 0;
            }
        }
        return what == 0 ? wins : what == 1 ? best : what == 2 ? same : NONE;
    }

    private static int join(List<Man> a, List<Man> b, int i, int j, int[][] known) {
        if (i == a.size() && j == b.size()) {
            return 0;
        }
        if (known[i][j] > 0) {
            return known[i][j];
        }
        int best = Integer.MAX_VALUE;
        if (i < a.size()) {
            best = Math.min(best, a.get(i).height + join(a, b, i + 1, j, known));
        }
        if (j < b.size()) {
            best = Math.min(best, b.get(j).height + join(a, b, i, j + 1, known));
        }
        if (i < a.size() && j < b.size()) {
            best = Math.min(best, Math.abs(a.get(i).height - b.get(j).height) + join(a, b, i + 1, j + 1, known));
        }
        known[i][j] = best;
        return best;
    }

    private static Set<Integer> heights(List<Man> men) {
        Set<Integer> all = new HashSet<>();
        int h = 0;
        for (Man m : men) {
            h += m.height;
            all.add(h);
        }
        return all;
    }

    public int joined(int a, int b, int what) {
        if (men(a) == null || men(b) == null || !in(what, 0, 1)) {
            return NONE;
        }
        if (what == 0) {
            return join(men(a), men(b), 0, 0, new int[17][17]);
        }
        Set<Integer> both = heights(men(a));
        both.retainAll(heights(men(b)));
        return both.size();
    }

    private Set<Integer> spread(Set<Integer> begun, boolean byDoors) {
        Set<Integer> joined = new HashSet<>(begun);
        boolean more = true;
        while (more) {
            more = false;
            for (int f = 0; f < house.flights.size(); f++) {
                for (int s = 0; s < men(f).size(); s++) {
                    Man m = man(f, s);
                    if (m.post == 2 || joined.contains(100 * f + s)) {
                        continue;
                    }
                    Set<Integer> beside = new HashSet<>();
                    if (s > 0) {
                        beside.add(100 * f + s - 1);
                    }
                    if (s + 1 < men(f).size()) {
                        beside.add(100 * f + s + 1);
                    }
                    for (int[] d : told.doors) {
                        if (byDoors && d[0] == f && d[1] == s) {
                            beside.add(100 * d[2] + d[3]);
                        }
                        if (byDoors && d[2] == f && d[3] == s) {
                            beside.add(100 * d[0] + d[1]);
                        }
                    }
                    beside.retainAll(joined);
                    if (beside.size() >= Math.max(1, m.rank)) {
                        joined.add(100 * f + s);
                        more = true;
                    }
                }
            }
        }
        return joined;
    }

    private boolean allJoin(int flight, int set) {
        List<Man> men = men(flight);
        int joined = set;
        boolean more = true;
        while (more) {
            more = false;
            for (int s = 0; s < men.size(); s++) {
                if ((joined >> s & 1) == 0 && men.get(s).post != 2) {
                    int beside = (s > 0 ? joined >> s - 1 & 1 : 0) + (joined >> s + 1 & 1);
                    if (beside >= Math.max(1, men.get(s).rank)) {
                        joined |= 1 << s;
                        more = true;
                    }
                }
            }
        }
        for (int s = 0; s < men.size(); s++) {
            if (men.get(s).post != 2 && (joined >> s & 1) == 0) {
                return false;
            }
        }
        return true;
    }

    public int mutiny(int flight, int steps) {
        List<Man> men = men(flight);
        if (men == null) {
            return NONE;
        }
        int missing = 0;
        for (int i = 0; i < men.size(); i++) {
            missing |= men.get(i).post == 2 ? 1 << i : 0;
        }
        if (steps == NONE) {
            int fewest = 99;
            for (int set = 0; set < 1 << men.size(); set++) {
                if ((set & missing) == 0 && Integer.bitCount(set) < fewest && allJoin(flight, set)) {
                    fewest = Integer.bitCount(set);
                }
            }
            return fewest;
        }
        if (!in(steps, 0, (1 << men.size()) - 1) || (steps & missing) != 0) {
            return NONE;
        }
        Set<Integer> begun = new HashSet<>();
        for (int i = 0; i < men.size(); i++) {
            if ((steps >> i & 1) == 1) {
                begun.add(100 * flight + i);
            }
        }
        return spread(begun, true).size();
    }

    public boolean drill(int v) {
        String row = row(v, 8);
        if (row == null) {
            return false;
        }
        told.drill = row;
        return true;
    }

    private static int[] drilled(int[] who, String row) {
        int[] then = new int[8];
        for (int i = 0; i < 8; i++) {
            then[i] = who[row.charAt(i) - '0'];
        }
        return then;
    }

    public int drilled(int n, int p) {
        int[] first = {0, 1, 2, 3, 4, 5, 6, 7};
        if (p == NONE) {
            int[] who = drilled(first, told.drill);
            int times = 1;
            while (!Arrays.equals(who, first)) {
                who = drilled(who, told.drill);
                times++;
            }
            return times;
        }
        if (!in(n, 0, 1000000) || !in(p, 0, 7)) {
            return NONE;
        }
        int[] who = first;
        for (int i = 0; i < n; i++) {
            who = drilled(who, told.drill);
        }
        return who[p];
    }

    public int between(int ab, int cd) {
        if (!in(ab, 0, 9999) || !in(cd, 0, 9999) || ab % 100 == 0 || cd % 100 == 0) {
            return NONE;
        }
        long a = ab / 100, b = ab % 100, c = cd / 100, d = cd % 100;
        if (a * d == c * b) {
            return NONE;
        }
        if (a * d > c * b) {
            return between(cd, ab);
        }
        for (long y = 1; ; y++) {
            for (long x = 0; x * d < c * y; x++) {
                if (x * b > a * y) {
                    return (int) (1000 * x + y);
                }
            }
        }
    }

    private static final int[] XS = new int[100001];
    private static final int[] YS = new int[100001];
    private static final Map<Integer, Integer> STEP_AT = new HashMap<>();

    static {
        int x = 0, y = 0, dx = 1, dy = 0, n = 0;
        STEP_AT.put(0, 0);
        for (int side = 1; n < 100000; side++) {
            for (int twice = 0; twice < 2; twice++) {
                for (int i = 0; i < side && n < 100000; i++) {
                    x += dx;
                    y += dy;
                    n++;
                    XS[n] = x;
                    YS[n] = y;
                    STEP_AT.put(1000 * x + y, n);
                }
                int was = dx;
                dx = -dy;
                dy = was;
            }
        }
    }

    public int spiral(int n, int what) {
        return !in(n, 0, 100000) || !in(what, 0, 1) ? -1000 : what == 0 ? XS[n] : YS[n];
    }

    public int winds(int x, int y) {
        return in(x, -100, 100) && in(y, -100, 100) ? STEP_AT.get(1000 * x + y) : NONE;
    }

    private static int tell(List<Integer> list, int v, int low, int high, int most) {
        if (v == NONE) {
            list.clear();
            return 0;
        }
        if (!in(v, low, high) || list.size() == most) {
            return NONE;
        }
        list.add(v);
        return list.size();
    }

    public int calls(int v) {
        return tell(told.numbers, v, 0, 15, 12);
    }

    public int missing(int what) {
        int least = 0;
        while (told.numbers.contains(least)) {
            least++;
        }
        List<Integer> odd = new ArrayList<>();
        for (int v = 0; v <= 15; v++) {
            int times = 0;
            for (int n : told.numbers) {
                times += n == v ? 1 : 0;
            }
            if (times % 2 == 1) {
                odd.add(v);
            }
        }
        return what == 0 ? least : what == 1 && odd.size() == 1 ? odd.get(0) : NONE;
    }

    public int length(int v) {
        return tell(told.lengths, v, 1, 60, 7);
    }

    private void cut(int i, List<Integer> used, int r, int[] best) {
        if (i == told.lengths.size()) {
            int most = 0;
            for (int u : used) {
                most = Math.max(most, r - u);
            }
            if (used.size() < best[0]) {
                best[0] = used.size();
                best[1] = most;
            } else if (used.size() == best[0]) {
                best[1] = Math.max(best[1], most);
            }
            return;
        }
        int v = told.lengths.get(i);
        for (int k = 0; k < used.size(); k++) {
            int was = used.get(k);
            if (was + 1 + v <= r) {
                used.set(k, was + 1 + v);
                cut(i + 1, used, r, best);
                used.set(k, was);
            }
        }
        if (v <= r) {
            used.add(v);
            cut(i + 1, used, r, best);
            used.remove(used.size() - 1);
        }
    }

    public int runner(int r, int what) {
        if (!in(r, 1, 120) || !in(what, 0, 1)) {
            return NONE;
        }
        int[] best = {99, 0};
        cut(0, new ArrayList<>(), r, best);
        return best[0] == 99 ? NONE : best[what];
    }

    public int wall(int v) {
        return tell(told.walls, v, 0, 99, 8);
    }

    public int ramp(int u, int h) {
        if (!in(u, 1, 9) || !in(h, 0, 99)) {
            return NONE;
        }
        boolean[] can = new boolean[200];
        can[0] = true;
        for (int foot = 0; foot < 200; foot++) {
            if (foot > 0) {
                boolean[] then = new boolean[200];
                for (int from = 0; from < 200; from++) {
                    for (int up = 0; up <= u && can[from] && from + up < 200; up++) {
                        if (foot > told.walls.size() || from + up >= told.walls.get(foot - 1)) {
                            then[from + up] = true;
                        }
                    }
                }
                can = then;
            }
            if (foot >= told.walls.size() && can[h]) {
                return foot;
            }
        }
        return NONE;
    }

    public int box(int abc, int de, int what) {
        int[] v = {abc / 10000, abc / 100 % 100, abc % 100};
        int d = de / 100, e = de % 100;
        if (abc < 0 || de < 0 || !in(v[0], 1, 99) || !in(v[1], 1, 99) || !in(v[2], 1, 99) || !in(d, 1, 99) || !in(e, 1, 99) || !in(what, 0, 1)) {
            return NONE;
        }
        int ways = 0;
        for (int i = 0; i < 3; i++) {
            for (int j = 0; j < 3; j++) {
                ways += i != j && v[i] <= d && v[j] <= e ? 1 : 0;
            }
        }
        return what == 1 ? ways : ways > 0 ? 1 : 0;
    }

    public int digit(int v) {
        return tell(told.digits, v, 0, 9, 10);
    }

    private static void rows(String done, int[] left, List<String> all) {
        boolean isEnd = true;
        for (int d = 0; d < 10; d++) {
            if (left[d] > 0) {
                isEnd = false;
                left[d]--;
                rows(done + d, left, all);
                left[d]++;
            }
        }
        if (isEnd) {
            all.add(done);
        }
    }

    public int cellar(int what) {
        if (!in(what, 0, 11)) {
            return NONE;
        }
        int[] left = new int[10];
        StringBuilder row = new StringBuilder();
        for (int d : told.digits) {
            left[d]++;
            row.append(d);
        }
        List<String> all = new ArrayList<>();
        rows("", left, all);
        int which = all.indexOf(row.toString());
        if (what == 10) {
            return all.size();
        }
        if (what == 11) {
            return which;
        }
        return which + 1 < all.size() && what < row.length() ? all.get(which + 1).charAt(what) - '0' : NONE;
    }

    public boolean coins(int stair, int v) {
        if (!in(stair, 1, 8) || !in(v, 0, 20)) {
            return false;
        }
        told.coins[stair] = v;
        return true;
    }

    public int game(int what) {
        for (int s = 1; s <= 8; s++) {
            for (int k = 1; k <= told.coins[s]; k++) {
                int[] c = told.coins.clone();
                c[s] -= k;
                c[s - 1] += k;
                if ((c[1] ^ c[3] ^ c[5] ^ c[7]) == 0) {
                    return what == 0 ? s : what == 1 ? k : NONE;
                }
            }
        }
        return NONE;
    }

    public boolean undo() {
        if (undos.isEmpty()) {
            return false;
        }
        house = undos.pop();
        return true;
    }

    public boolean image(boolean taken) {
        if (taken) {
            imageHouse = house.copy();
            imageTold = told.copy();
            return true;
        }
        if (imageHouse == null) {
            return false;
        }
        house = imageHouse.copy();
        told = imageTold.copy();
        undos.clear();
        return true;
    }

    public int look(int what) {
        int[] all = {house.flights.size(), house.creaks, house.salutes, house.night, house.book.size(), house.state, told.law.size(),
            told.orders.size(), told.visits.size(), told.doors.size(), undos.size()};
        return in(what, 0, 10) ? all[what] : NONE;
    }
}
