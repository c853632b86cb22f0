import java.util.ArrayList;
import java.util.HashMap;
import java.util.List;
import java.util.Map;

/**
 * The document over again, in another way and as plainly as can be: people as objects, laws read from their tokens each
 * time, states copied whole. It is slow, and only for comparing; it takes texts without FAULTS.
 */
final class Model {
    static final class Person {
        int go, come, temper, name, waited;
        char where = 'i';
        boolean kept, late, wentNow, gone;

        Person copy() {
            Person p = new Person();
            p.go = go; p.come = come; p.temper = temper; p.name = name; p.waited = waited;
            p.where = where; p.kept = kept; p.late = late; p.gone = gone;
            return p;
        }
    }

    static final class Key {
        int door, box;
        Integer goal = null;

        Key copy() {
            Key k = new Key();
            k.door = door; k.box = box; k.goal = goal;
            return k;
        }
    }

    static final class DividedByZero extends Exception { }

    List<Person> people = new ArrayList<>();
    List<Key> keys = new ArrayList<>();
    List<Boolean> both = new ArrayList<>();
    List<Integer> by = new ArrayList<>();
    Map<String, List<String>> laws = new HashMap<>();
    int seed, hour, quarrels, letIns, spareIns;
    boolean lateOnes = true;

    Model copy() {
        Model m = new Model();
        for (Person p : people) m.people.add(p.copy());
        for (Key k : keys) m.keys.add(k.copy());
        m.both = both;
        m.by = new ArrayList<>(by);
        m.laws = laws;
        m.seed = seed; m.hour = hour; m.quarrels = quarrels; m.letIns = letIns; m.spareIns = spareIns;
        m.lateOnes = lateOnes;
        return m;
    }

    Model dry() {
        Model m = copy();
        m.lateOnes = false;
        return m;
    }

    // ---- reading

    static List<String> tokens(String text) {
        List<String> list = new ArrayList<>();
        java.util.regex.Matcher m = java.util.regex.Pattern.compile("[a-z]+|[0-9]+|[^ \\t\\r\\n]").matcher(text);
        while (m.find()) list.add(m.group());
        return list;
    }

    static Model of(String text) {
        Model m = new Model();
        m.laws.put("lets", List.of("1"));
        m.laws.put("quarrel", List.of("waited"));
        m.laws.put("rent", List.of("inside"));
        m.laws.put("late", List.of("0"));
        List<String> names = new ArrayList<>();
        List<String> all = tokens(text);
        while (!all.isEmpty()) {
            int end = all.indexOf(";");
            m.take(all.subList(0, end), names);
            all = all.subList(end + 1, all.size());
        }
        return m;
    }

    private void take(List<String> tell, List<String> names) {
        switch (tell.get(0)) {
            case "house" -> {
                Person p = new Person();
                p.name = names.size();
                names.add(tell.get(1));
                p.go = Integer.parseInt(tell.get(2));
                p.come = Integer.parseInt(tell.get(3));
                p.temper = Integer.parseInt(tell.get(4));
                people.add(p);
                both.add(false);
                by.add(-2);
            }
            case "spare" -> {
                Key k = new Key();
                k.door = names.indexOf(tell.get(1));
                k.box = names.indexOf(tell.get(2));
                keys.add(k);
            }
            case "both" -> both.set(names.indexOf(tell.get(1)), true);
            case "seed" -> seed = Integer.parseInt(tell.get(1));
            default -> laws.put(tell.get(0), new ArrayList<>(tell.subList(2, tell.size())));
        }
    }

    // ---- laws

    int law(String name, Map<String, Integer> vars) {
        vars.put("hour", hour % 24);
        vars.put("day", hour / 24);
        vars.put("inside", (int) people.stream().filter(p -> p.where == 'i').count());
        vars.put("outside", (int) people.stream().filter(p -> p.where == 's').count());
        try {
            return ifs(laws.get(name), vars);
        } catch (DividedByZero e) {
            return 0;
        }
    }

    private int ifs(List<String> law, Map<String, Integer> vars) throws DividedByZero {
        if (!law.get(0).equals("if")) return sum(law, vars);
        int less = law.indexOf("<"), then = law.indexOf("then"), other = law.indexOf("else");
        if (sum(law.subList(1, less), vars) < sum(law.subList(less + 1, then), vars)) {
            return sum(law.subList(then + 1, other), vars);
        }
        return ifs(law.subList(other + 1, law.size()), vars);
    }

    /** Splits at the last operator outside parentheses that binds least. */
    private int sum(List<String> e, Map<String, Integer> vars) throws DividedByZero {
        for (String ops : new String[] {"+-", "*/"}) {
            int deep = 0;
            for (int i = e.size() - 1; i > 0; i--) {
                String t = e.get(i);
                deep += t.equals(")") ? 1 : t.equals("(") ? -1 : 0;
                if (deep == 0 && ops.contains(t)) {
                    int a = sum(e.subList(0, i), vars);
                    int b = sum(e.subList(i + 1, e.size()), vars);
                    if (t.equals("/") && b == 0) throw new DividedByZero();
                    return t.equals("+") ? a + b : t.equals("-") ? a - b : t.equals("*") ? a * b : a / b;
                }
            }
        }
        String t = e.get(0);
        if (t.equals("(")) return sum(e.subList(1, e.size() - 1), vars);
        return Character.isDigit(t.charAt(0)) ? Integer.parseInt(t) : vars.getOrDefault(t, 0);
    }

    static Map<String, Integer> vars(Object... pairs) {
        Map<String, Integer> m = new HashMap<>();
        for (int i = 0; i < pairs.length; i += 2) m.put((String) pairs[i], (Integer) pairs[i + 1]);
        return m;
    }

    boolean letsIn(int host, int guest) {
        Person h = people.get(host), g = people.get(guest);
        return law("lets", vars("waited", g.waited, "temper", h.temper, "other", g.temper, "which", guest)) > 0;
    }

    int rent(int house) {
        int in = (int) keys.stream().filter(k -> k.box == house).count();
        return held(law("rent", vars("which", house, "temper", people.get(house).temper, "keys", in)), 99);
    }

    int rents() {
        int sum = 0;
        for (int i = 0; i < people.size(); i++) sum += rent(i);
        return sum;
    }

    static int held(int value, int most) {
        return value < 0 ? 0 : value > most ? most : value;
    }

    static int lot(int n, int seed, int which) {
        int h = seed;
        for (int it : new int[] {133, which}) {
            h = (h ^ it) * 1103515245 + 12345;
            h = h ^ (h >>> 15);
        }
        return (h >>> 1) % n;
    }

    // ---- an hour

    boolean ownKey(int house) {
        return keys.stream().anyMatch(k -> k.door == house && k.box == house);
    }

    int right(int house) { return (house + 1) % people.size(); }

    int left(int house) { return (house + people.size() - 1) % people.size(); }

    void step() {
        int n = people.size();
        if (hour % 24 == 0) {
            for (Key k : keys) if (k.goal != null && k.goal != k.box) k.box = right(k.box);
        }
        for (Person p : people) {
            p.wentNow = false;
            if (p.go == hour % 24 && p.where != 'o' && !p.kept) {
                p.where = 'o';
                p.waited = 0;
                p.wentNow = true;
            }
        }
        for (int i = 0; i < n; i++) arrive(i);
        letIn();
        for (Person p : people) if (p.where == 's') p.waited++;
        for (int i = 0; i < n; i++) {
            Person p = people.get(i);
            if (p.where == 's') {
                int more = held(law("quarrel", vars("waited", p.waited, "temper", p.temper, "which", i)), 99);
                quarrels = Math.min(99999, quarrels + more);
            }
        }
        hour++;
    }

    private void arrive(int i) {
        Person p = people.get(i);
        boolean was = p.late;
        p.late = false;
        if (p.where != 'o' || p.wentNow || p.gone || !(p.come == hour % 24 || was)) return;
        int late = held(law("late", vars("temper", p.temper, "which", i)), 100);
        if (lateOnes && !was && lot(100, seed, 32 * hour + i) < late) {
            p.late = true;
        } else {
            p.where = 's';
        }
    }

    int letIn() {
        int let = 0;
        boolean any = true;
        while (any) {
            any = false;
            for (int i = 0; i < people.size(); i++) {
                if (people.get(i).where != 's') continue;
                int who = -1;
                if (ownKey(i) || people.size() == 1) who = i;
                else if (people.get(left(i)).where != 'o' && letsIn(left(i), i)) who = left(i);
                else if (people.get(right(i)).where != 'o' && both.get(right(i)) && letsIn(right(i), i)) who = right(i);
                if (who < 0) continue;
                people.get(i).where = 'i';
                people.get(i).waited = 0;
                by.set(i, who);
                letIns++;
                if (ownKey(i)) spareIns++;
                let++;
                any = true;
            }
        }
        return let;
    }

    // ---- questions

    int bits(char where) {
        int bits = 0;
        for (int i = 0; i < people.size(); i++) if (people.get(i).where == where) bits |= 1 << i;
        return bits;
    }

    /** Who stands OUTSIDE behind each of the next n hours. */
    int[] rows(int n) {
        Model m = dry();
        int[] rows = new int[n];
        for (int i = 0; i < n; i++) {
            m.step();
            rows[i] = m.bits('s');
        }
        return rows;
    }

    int standAll(int n) {
        int sum = 0;
        for (int row : rows(n)) sum += Integer.bitCount(row);
        return sum;
    }

    int standOf(int house, int n) {
        int sum = 0;
        for (int row : rows(n)) sum += row >> house & 1;
        return sum;
    }

    int ever(int n) {
        int bits = 0;
        for (int row : rows(n)) bits |= row;
        return bits;
    }

    int openers(int i) {
        int bits = ownKey(i) || people.size() == 1 ? 1 << i : 0;
        if (people.get(left(i)).where != 'o') bits |= 1 << left(i);
        if (people.get(right(i)).where != 'o' && both.get(right(i))) bits |= 1 << right(i);
        return bits;
    }

    int stay(int what) {
        int best = -2;
        for (int set = 0; set < 1 << people.size(); set++) {
            Model m = copy();
            boolean free = true;
            for (int i = 0; i < people.size(); i++) {
                if ((set >> i & 1) == 1) {
                    free &= !m.people.get(i).kept;
                    m.people.get(i).kept = true;
                }
            }
            if (free && m.ever(72) == 0 && (best == -2 || Integer.bitCount(set) < Integer.bitCount(best))) best = set;
        }
        return best == -2 ? -2 : what == 0 ? Integer.bitCount(best) : best;
    }

    int shift(int house, int what) {
        long best = Long.MAX_VALUE;
        int own = people.get(house).come;
        for (int c = 0; c < 24; c++) {
            Model m = copy();
            m.people.get(house).come = c;
            int way = Math.min(Math.floorMod(c - own, 24), Math.floorMod(own - c, 24));
            best = Math.min(best, m.standAll(72) * 10000L + way * 100 + c);
        }
        return (int) (what == 0 ? best % 100 : best / 10000);
    }

    void swap(int a, int b) {
        Person p = people.get(a);
        people.set(a, people.get(b));
        people.set(b, p);
    }

    int changeBest(int what) {
        int best = standAll(72), pair = -2;
        for (int a = 0; a < people.size(); a++) {
            for (int b = a + 1; b < people.size(); b++) {
                if (people.get(a).where != 'i' || people.get(b).where != 'i') continue;
                Model m = copy();
                m.swap(a, b);
                int stand = m.standAll(72);
                if (stand < best) {
                    best = stand;
                    pair = 10 * a + b;
                }
            }
        }
        return what == 0 || pair < 0 ? pair : best;
    }

    int frees(int house) {
        Model m = copy();
        m.people.get(house).where = 'i';
        m.people.get(house).waited = 0;
        return m.letIn();
    }

    Model without(int house) {
        Model m = copy();
        Person p = m.people.get(house);
        p.where = 'o';
        p.waited = 0;
        p.gone = true;
        return m;
    }

    int shut(int house) { return without(house).ever(24) & ~ever(24); }

    int gain(int spare) {
        Model m = copy();
        m.keys.get(spare).box = m.keys.get(spare).door;
        return standAll(72) - m.standAll(72);
    }

    int days(int spare, int house) {
        int at = keys.get(spare).box, days = 0;
        while (at != house) {
            at = right(at);
            days++;
        }
        return days;
    }

    int soonest(int house, int what) {
        int best = -2;
        for (int i = 0; i < keys.size(); i++) {
            if (keys.get(i).door == house && (best == -2 || days(i, house) < days(best, house))) best = i;
        }
        return best == -2 || what == 0 ? best : days(best, house);
    }

    Model behind(int n) {
        Model m = copy();
        for (int i = 0; i < n; i++) m.step();
        return m;
    }

    int year(int n, int s) {
        int calm = 0;
        for (int i = 0; i < s; i++) {
            Model m = copy();
            m.seed += i;
            if (m.behind(n).bits('s') == 0) calm++;
        }
        return calm;
    }

    int overslept(List<int[]> known) {
        int bits = 0;
        for (int x = 0; x < people.size(); x++) {
            int ever = without(x).ever(24);
            if (known.stream().allMatch(t -> (ever >> t[0] & 1) == t[1])) bits |= 1 << x;
        }
        return bits;
    }

    int ask(List<int[]> known) {
        if (overslept(known) == 0) return -2;
        int best = -2, fewest = 99;
        for (int h = 0; h < people.size(); h++) {
            int worst = 0;
            for (int stood = 0; stood < 2; stood++) {
                List<int[]> more = new ArrayList<>(known);
                more.add(new int[] {h, stood});
                worst = Math.max(worst, Integer.bitCount(overslept(more)));
            }
            if (worst < fewest) {
                fewest = worst;
                best = h;
            }
        }
        return best;
    }
}
