import java.math.BigInteger;
import java.util.ArrayList;
import java.util.Arrays;
import java.util.Comparator;
import java.util.List;
import java.util.regex.Matcher;
import java.util.regex.Pattern;

/** The document's words done the long way, without tables or short cuts; Fuzz holds the class against it. */
final class Model {
    private static final class Told {
        int kinds;
        int law;
        int fades;
        int odds;
        int lines;
        List<int[]> people = new ArrayList<>();

        Told copy() {
            Told t = new Told();
            t.kinds = kinds;
            t.law = law;
            t.fades = fades;
            t.odds = odds;
            t.lines = lines;
            t.people = new ArrayList<>(people);
            return t;
        }
    }

    private record Act(boolean swap, int person, int object, int season, int on) { }

    /** One season laid open: everything is worked out anew when asked. */
    private static final class World {
        int kinds;
        int law;
        int[][] taste;
        boolean[][] hid;
        List<Integer> row;

        World copy() {
            World w = new World();
            w.kinds = kinds;
            w.law = law;
            w.taste = new int[taste.length][];
            w.hid = new boolean[taste.length][];
            for (int i = 0; i < taste.length; i++) {
                w.taste[i] = taste[i].clone();
                w.hid[i] = hid[i].clone();
            }
            w.row = new ArrayList<>(row);
            return w;
        }

        void exchange(int a, int b) {
            int i = row.indexOf(a);
            int j = row.indexOf(b);
            row.set(i, b);
            row.set(j, a);
        }

        int decider(int p) {
            int at = row.indexOf(p);
            if (at < row.size() - 1) {
                return row.get(at + 1);
            }
            switch (law) {
                case 2: return row.get(0);
                case 3: return row.size() == 1 ? -1 : row.get(at - 1);
                default: return -1;
            }
        }

        boolean openly(int p, int k) {
            return taste[p][k] < 0 && !hid[p][k];
        }

        List<Integer> mayBy(int d) {
            List<Integer> set = new ArrayList<>();
            for (int k = 0; k < kinds; k++) {
                if (d >= 0 ? openly(d, k) : law == 1) {
                    set.add(k);
                }
            }
            return set;
        }

        int growsBy(int p, int d) {
            List<Integer> set = mayBy(d);
            set.sort(Comparator.comparingInt(k -> -taste[p][k]));
            return set.isEmpty() ? -1 : set.get(0);
        }

        int grows(int p) {
            return growsBy(p, decider(p));
        }

        int joy(int p) {
            return grows(p) < 0 ? 0 : taste[p][grows(p)];
        }

        int smell(int p) {
            int sum = 0;
            for (int q : row) {
                if (q != p && decider(q) == p && grows(q) >= 0 && taste[p][grows(q)] < 0) {
                    sum -= taste[p][grows(q)];
                }
            }
            return sum;
        }

        int has(int p) {
            return joy(p) - smell(p);
        }

        int all() {
            int sum = 0;
            for (int p : row) {
                sum += has(p);
            }
            return sum;
        }

        int bares() {
            int n = 0;
            for (int p : row) {
                n += grows(p) < 0 ? 1 : 0;
            }
            return n;
        }
    }

    private final List<Integer> tape = new ArrayList<>();
    private Told told = null;
    private List<Act> acts = new ArrayList<>();
    private int fault = 0;
    private int place = -1;
    private final Told[] imageTold = new Told[3];
    @SuppressWarnings("unchecked")
    private final List<Act>[] imageActs = (List<Act>[]) new List<?>[3];
    private final long[][] slot = new long[4][];
    private final int[] width = new int[4];
    private List<World> seasons = null;
    private int[] orderFacts = null;

    // ---- reading ----

    private record Token(String text, int place) { }

    private List<Token> tokens() {
        StringBuilder s = new StringBuilder();
        for (int b : tape) {
            s.append((char) b);
        }
        List<Token> list = new ArrayList<>();
        Matcher m = Pattern.compile("[a-z]+|[0-9]+|[^ \n]", Pattern.DOTALL).matcher(s);
        while (m.find()) {
            list.add(new Token(m.group(), m.start()));
        }
        list.add(new Token("", s.length()));
        return list;
    }

    private int read() {
        List<Token> ts = tokens();
        Told t = new Told();
        fault = 0;
        place = -1;
        int i = 0;
        int[] head = new int[4];
        String[] names = {"kinds", "law", "fades", "odds"};
        int[] least = {1, 0, 0, 0};
        int[] most = {5, 3, 3, 10};
        while (!ts.get(i).text.isEmpty()) {
            if (t.lines == 0) {
                if (!ts.get(i).text.equals("field")) {
                    return faulty(1, ts.get(i));
                }
                i++;
                for (int j = 0; j < 4; j++) {
                    if (!ts.get(i).text.equals(names[j])) {
                        return faulty(1, ts.get(i));
                    }
                    i++;
                    int f = number(ts.get(i), least[j], most[j]);
                    if (f != 0) {
                        return faulty(f, ts.get(i));
                    }
                    head[j] = Integer.parseInt(ts.get(i).text);
                    i++;
                }
            } else {
                if (!ts.get(i).text.equals("person")) {
                    return faulty(1, ts.get(i));
                }
                if (t.people.size() == 6) {
                    return faulty(3, ts.get(i));
                }
                i++;
                int[] likes = new int[head[0]];
                while (ts.get(i).text.equals("loves") || ts.get(i).text.equals("hates")) {
                    int sign = ts.get(i).text.equals("loves") ? 1 : -1;
                    int f = number(ts.get(i + 1), 0, head[0] - 1);
                    if (f != 0) {
                        return faulty(f, ts.get(i + 1));
                    }
                    f = number(ts.get(i + 2), 1, 9);
                    if (f != 0) {
                        return faulty(f, ts.get(i + 2));
                    }
                    likes[Integer.parseInt(ts.get(i + 1).text)] = sign * Integer.parseInt(ts.get(i + 2).text);
                    i += 3;
                }
                t.people.add(likes);
            }
            if (!ts.get(i).text.equals(";")) {
                return faulty(1, ts.get(i));
            }
            i++;
            t.lines++;
        }
        t.kinds = head[0];
        t.law = head[1];
        t.fades = head[2];
        t.odds = head[3];
        told = t.lines == 0 ? null : t;
        acts = new ArrayList<>();
        return t.lines;
    }

    private static int number(Token t, int least, int most) {
        if (!t.text.matches("[0-9]+")) {
            return 1;
        }
        BigInteger n = new BigInteger(t.text);
        return n.compareTo(BigInteger.valueOf(least)) < 0 || n.compareTo(BigInteger.valueOf(most)) > 0 ? 2 : 0;
    }

    private int faulty(int what, Token at) {
        fault = what;
        place = at.place;
        return -4;
    }

    // ---- seasons ----

    private World at(int s) {
        if (seasons == null) {
            seasons = new ArrayList<>();
            for (int i = 0; i < 13; i++) {
                seasons.add(lay(i, i == 0 ? null : seasons.get(i - 1)));
            }
        }
        return seasons.get(s);
    }

    private World lay(int s, World before) {
        World w = new World();
        int n = told.people.size();
        w.kinds = told.kinds;
        w.law = told.law;
        w.taste = new int[n][];
        w.hid = new boolean[n][told.kinds];
        w.row = new ArrayList<>();
        for (int p = 0; p < n; p++) {
            w.row.add(p);
            w.taste[p] = before == null ? told.people.get(p).clone() : before.taste[p].clone();
            for (int k = 0; before != null && k < told.kinds; k++) {
                if (before.grows(p) == k && w.taste[p][k] < 9) {
                    w.taste[p][k]++;
                }
            }
            for (int k = 0; before != null && k < told.kinds; k++) {
                for (int f = 0; f < told.fades && w.taste[p][k] < 0; f++) {
                    w.taste[p][k]++;
                }
            }
            for (int k = 0; k < told.kinds; k++) {
                w.hid[p][k] = isHid(p, k, s);
            }
        }
        for (int i = 0; i <= s; i++) {
            for (Act a : acts) {
                if (a.swap && a.season == i) {
                    w.exchange(a.person, a.object);
                }
            }
        }
        return w;
    }

    private boolean isHid(int p, int k, int s) {
        Act latest = null;
        for (Act a : acts) {
            if (!a.swap && a.person == p && a.object == k && a.season <= s
                    && (latest == null || a.season >= latest.season)) {
                latest = a;
            }
        }
        return latest != null && latest.on == 1;
    }

    // ---- orders: best, ways, fewest, full, then the first row ----

    private int[] orders() {
        if (orderFacts == null) {
            int n = told.people.size();
            orderFacts = new int[4 + n];
            orderFacts[0] = Integer.MIN_VALUE;
            orderFacts[2] = Integer.MAX_VALUE;
            permute(new ArrayList<>(), n);
        }
        return orderFacts;
    }

    private void permute(List<Integer> row, int n) {
        if (row.size() == n) {
            World w = at(0).copy();
            w.row = row;
            int all = w.all();
            int bare = w.bares();
            if (all > orderFacts[0]) {
                orderFacts[0] = all;
                orderFacts[1] = 0;
                for (int i = 0; i < n; i++) {
                    orderFacts[4 + i] = row.get(i);
                }
            }
            orderFacts[1] += all == orderFacts[0] ? 1 : 0;
            orderFacts[2] = Math.min(orderFacts[2], bare);
            orderFacts[3] += bare == 0 ? 1 : 0;
            return;
        }
        for (int p = 0; p < n; p++) {
            if (!row.contains(p)) {
                row.add(p);
                permute(row, n);
                row.remove(row.size() - 1);
            }
        }
    }

    // ---- helpers ----

    private boolean person(long p) {
        return told != null && p >= 0 && p < told.people.size();
    }

    private boolean kind(long k) {
        return told != null && k >= 0 && k < told.kinds;
    }

    private boolean season(long s) {
        return told != null && s >= 0 && s <= 12;
    }

    private int n() {
        return told.people.size();
    }

    private int bits(java.util.function.IntPredicate is, int n) {
        int set = 0;
        for (int i = 0; i < n; i++) {
            if (is.test(i)) {
                set += 1 << i;
            }
        }
        return set;
    }

    private int got(int p, int q, int a, int b) {
        World w = at(0).copy();
        if (a == 1) {
            Arrays.fill(w.hid[p], true);
        }
        if (b == 1) {
            Arrays.fill(w.hid[q], true);
        }
        return w.has(p) - (a == 1 ? 2 : 0);
    }

    private int hasIfHid(int p, int set) {
        World w = at(0).copy();
        for (int k = 0; k < told.kinds; k++) {
            w.hid[p][k] |= (set >> k & 1) == 1;
        }
        return w.has(p);
    }

    private int leastLie(int p) {
        for (int k = 0; k < told.kinds; k++) {
            if (at(0).openly(p, k) && hasIfHid(p, 1 << k) > at(0).has(p)) {
                return k;
            }
        }
        return -1;
    }

    private World changed(int p, int q) {
        World w = at(0).copy();
        w.exchange(p, q);
        return w;
    }

    private int allIfTold(int p, int k, int n) {
        World w = at(0).copy();
        w.taste[p][k] = n;
        return w.all();
    }

    private int answer(int p, int set) {
        int found = -1;
        int[] t = told.people.get(p);
        for (int k = told.kinds - 1; k >= 0; k--) {
            if ((set >> k & 1) == 1 && (found < 0 || t[k] >= t[found])) {
                found = k;
            }
        }
        return found;
    }

    private int slotFault(int s) {
        if (s < 0 || s > 3 || told == null) {
            return -2;
        }
        if (slot[s] == null) {
            return -6;
        }
        if (slot[s].length % 2 == 1) {
            return -2;
        }
        for (int i = 0; i < slot[s].length; i++) {
            if (i % 2 == 0 ? !person(slot[s][i]) : slot[s][i] != -1 && !kind(slot[s][i])) {
                return -2;
            }
        }
        return 0;
    }

    private List<Integer> sets(int s) {
        List<Integer> list = new ArrayList<>();
        for (int set = 0; set < 1 << told.kinds; set++) {
            boolean fits = true;
            for (int i = 0; i < slot[s].length; i += 2) {
                fits &= answer((int) slot[s][i], set) == slot[s][i + 1];
            }
            if (fits) {
                list.add(set);
            }
        }
        return list;
    }

    private int worst(List<Integer> sets, int p) {
        int worst = 0;
        for (int k = -1; k < told.kinds; k++) {
            int n = 0;
            for (int set : sets) {
                n += answer(p, set) == k ? 1 : 0;
            }
            worst = Math.max(worst, n);
        }
        return worst;
    }

    private int askOf(List<Integer> sets) {
        int found = -1;
        for (int p = 0; p < n(); p++) {
            if (worst(sets, p) < (found < 0 ? sets.size() : worst(sets, found))) {
                found = p;
            }
        }
        return found;
    }

    private int judgesOf() {
        for (int size = 0; size <= n(); size++) {
            for (int who = 0; who < 1 << n(); who++) {
                if (Integer.bitCount(who) == size && allTold(who)) {
                    return who;
                }
            }
        }
        return -1;
    }

    private boolean allTold(int who) {
        for (int a = 0; a < 1 << told.kinds; a++) {
            for (int b = 0; b < a; b++) {
                boolean told2 = false;
                for (int p = 0; p < n(); p++) {
                    told2 |= (who >> p & 1) == 1 && answer(p, a) != answer(p, b);
                }
                if (!told2) {
                    return false;
                }
            }
        }
        return true;
    }

    private int clearOf() {
        for (int size = 0; size <= n(); size++) {
            for (int who = 0; who < 1 << n(); who++) {
                World w = at(0).copy();
                final int gone = who;
                w.row.removeIf(p -> (gone >> p & 1) == 1);
                if (Integer.bitCount(who) == size && w.bares() == 0) {
                    return who;
                }
            }
        }
        return -99;
    }

    /** Weights, of 10 to the count of hates, by KIND (last: bare), over all ways to lose the hates of his decider. */
    private long[] weights(int p) {
        World now = at(0);
        int d = now.decider(p);
        long[] sum = new long[told.kinds + 1];
        for (int lost = 0; lost < 1 << told.kinds; lost++) {
            World w = now.copy();
            long weight = 1;
            for (int k = 0; k < told.kinds; k++) {
                boolean gone = (lost >> k & 1) == 1;
                if (d >= 0 && now.openly(d, k)) {
                    weight *= gone ? told.odds : 10 - told.odds;
                    w.hid[d][k] |= gone;
                } else {
                    weight *= gone ? 0 : 10;
                }
            }
            int g = w.grows(p);
            sum[g < 0 ? told.kinds : g] += weight;
        }
        return sum;
    }

    private int part(long above, int what) {
        BigInteger a = BigInteger.valueOf(above);
        BigInteger b = BigInteger.TEN.pow(told.kinds);
        BigInteger g = a.gcd(b);
        return (what == 0 ? a : b).divide(g).intValue();
    }

    private int spring(int seed, int what, int person) {
        World w = at(0).copy();
        BigInteger x = BigInteger.valueOf(seed);
        int lost = 0;
        for (int p = 0; p < n(); p++) {
            for (int k = 0; k < told.kinds; k++) {
                if (at(0).openly(p, k)) {
                    x = x.multiply(BigInteger.valueOf(1103515245)).add(BigInteger.valueOf(12345))
                        .mod(BigInteger.valueOf(2147483648L));
                    if (x.divide(BigInteger.valueOf(65536)).mod(BigInteger.TEN).intValue() < told.odds) {
                        w.hid[p][k] = true;
                        lost++;
                    }
                }
            }
        }
        if (what == 2) {
            return w.grows(person) < 0 ? 1 : 0;
        }
        return what == 1 ? lost : bits(p -> w.grows(p) < 0, n());
    }

    private void stale() {
        seasons = null;
        orderFacts = null;
    }

    // ---- the calls ----

    int call(String name, long... l) {
        int[] a = new int[5];
        for (int i = 0; i < l.length; i++) {
            a[i] = (int) l[i];
        }
        switch (name) {
            case "feed": case "end": case "field": case "fault": case "swap": case "hide": case "undo":
            case "anew": case "rate": case "count": case "image": case "back":
                return act(name, a);
            case "row": case "write": case "paste":
                return slots(name, a, l.length > 2 ? l[2] : 0);
            case "spoons": case "surely": case "never": case "ask": case "leaves":
                return spoon(name, a[0]);
            case "fails": case "peace": case "lean": case "treaties": case "best": case "order": case "ways":
            case "fewest": case "full": case "clear": case "liars": case "trades": case "trade": case "judges":
            case "mean": case "drawn": case "luck":
                return whole(name, a);
            case "haters": case "on": case "bare": case "growers": case "kinds": case "all": case "happiest":
            case "foe": case "lasts": case "uncle": case "saints":
                return ofSeason(name, a);
            default:
                return ofPerson(name, a);
        }
    }

    private int act(String name, int[] a) {
        switch (name) {
            case "feed":
                if (tape.size() + 20 > 800) {
                    return -1;
                }
                for (int i = 0; i < 20; i++) {
                    tape.add(a[i / 4] >>> 8 * (3 - i % 4) & 255);
                }
                return tape.size();
            case "end":
                if (a[0] < 0 || a[0] > tape.size()) {
                    return -1;
                }
                tape.subList(a[0], tape.size()).clear();
                return a[0];
            case "field":
                int lines = read();
                tape.clear();
                stale();
                return lines;
            case "fault":
                return a[0] == 0 ? fault : a[0] == 1 ? place : -1;
            case "swap":
                if (!person(a[0]) || !person(a[1]) || !season(a[2])) {
                    return -2;
                }
                if (acts.size() == 40) {
                    return -5;
                }
                acts.add(new Act(true, a[0], a[1], a[2], 0));
                stale();
                return a[0] == a[1] ? 0 : 1;
            case "hide":
                if (!person(a[0]) || !kind(a[1]) || !season(a[2]) || a[3] < 0 || a[3] > 1) {
                    return -2;
                }
                if (acts.size() == 40) {
                    return -5;
                }
                int was = isHid(a[0], a[1], a[2]) ? 1 : 0;
                acts.add(new Act(false, a[0], a[1], a[2], a[3]));
                stale();
                return was;
            case "undo":
                if (told == null) {
                    return -2;
                }
                if (acts.isEmpty()) {
                    return -5;
                }
                acts.remove(acts.size() - 1);
                stale();
                return acts.size();
            case "anew":
                if (told == null) {
                    return -2;
                }
                int had = acts.size();
                acts.clear();
                stale();
                return had;
            case "rate":
                if (told == null || a[0] < 0 || a[0] > 3) {
                    return -2;
                }
                if (!acts.isEmpty()) {
                    return -5;
                }
                int before = told.fades;
                told.fades = a[0];
                stale();
                return before;
            case "image":
                if (a[0] < 0 || a[0] > 2) {
                    return -2;
                }
                imageTold[a[0]] = told == null ? null : told.copy();
                imageActs[a[0]] = new ArrayList<>(acts);
                return 0;
            case "back":
                if (a[0] < 0 || a[0] > 2) {
                    return -2;
                }
                if (imageActs[a[0]] == null) {
                    return -6;
                }
                told = imageTold[a[0]] == null ? null : imageTold[a[0]].copy();
                acts = new ArrayList<>(imageActs[a[0]]);
                stale();
                return 0;
            default:
                return counts(a[0]);
        }
    }

    private int counts(int what) {
        Told t = told == null ? new Told() : told;
        int there = 0;
        for (long[] s : slot) {
            there += s == null ? 0 : 1;
        }
        int[] all = {t.kinds, t.law, t.fades, t.odds, t.people.size(), acts.size(), t.lines, tape.size(), there};
        return what >= 0 && what < all.length ? all[what] : -1;
    }

    private int slots(String name, int[] a, long v) {
        if (a[0] < 0 || a[0] > 3) {
            return -2;
        }
        if (name.equals("row")) {
            if (a[1] < 0 || a[1] > 3 || a[2] > 60) {
                return -2;
            }
            if (a[2] < 0) {
                return -3;
            }
            slot[a[0]] = new long[a[2]];
            width[a[0]] = a[1];
            return 0;
        }
        if (name.equals("write")) {
            if (slot[a[0]] == null) {
                return -6;
            }
            if (a[1] < 0 || a[1] >= slot[a[0]].length) {
                return -7;
            }
            int cut = 64 - (8 << width[a[0]]);
            slot[a[0]][a[1]] = v << cut >> cut;
            return 0;
        }
        if (a[2] < 0 || a[2] > 3) {
            return -2;
        }
        if (slot[a[0]] == null || slot[a[2]] == null) {
            return -6;
        }
        if (width[a[0]] != width[a[2]]) {
            return -8;
        }
        if (a[1] < 0 || a[3] < 0 || a[4] < 0 || (long) a[1] + a[4] > slot[a[0]].length
                || (long) a[3] + a[4] > slot[a[2]].length) {
            return -7;
        }
        long[] kept = slot[a[0]].clone();
        for (int i = 0; i < a[4]; i++) {
            slot[a[2]][a[3] + i] = kept[a[1] + i];
        }
        return 0;
    }

    private int spoon(String name, int s) {
        if (slotFault(s) != 0) {
            return slotFault(s);
        }
        List<Integer> sets = sets(s);
        switch (name) {
            case "spoons":
                return sets.size();
            case "surely":
                return sets.isEmpty() ? -1 : bits(k -> sets.stream().allMatch(t -> (t >> k & 1) == 1), told.kinds);
            case "never":
                return sets.isEmpty() ? -1 : bits(k -> sets.stream().noneMatch(t -> (t >> k & 1) == 1), told.kinds);
            case "ask":
                return askOf(sets);
            default:
                return askOf(sets) < 0 ? sets.size() : worst(sets, askOf(sets));
        }
    }

    private int whole(String name, int[] a) {
        if (told == null) {
            return name.equals("best") ? -10000 : -2;
        }
        switch (name) {
            case "fails":
                for (int s = 0; s < 13; s++) {
                    if (at(s).bares() > 0) {
                        return s;
                    }
                }
                return -1;
            case "peace":
                for (int s = 0; s < 13; s++) {
                    if (Arrays.stream(at(s).taste).flatMapToInt(Arrays::stream).noneMatch(t -> t < 0)) {
                        return s;
                    }
                }
                return -1;
            case "lean":
                int lean = 12;
                for (int s = 11; s >= 0; s--) {
                    lean = at(s).all() <= at(lean).all() ? s : lean;
                }
                return lean;
            case "best":
                return orders()[0];
            case "order":
                return person(a[0]) ? orders()[4 + a[0]] : -2;
            case "ways":
                return orders()[1];
            case "fewest":
                return orders()[2];
            case "full":
                return orders()[3];
            case "clear":
                return clearOf();
            case "liars":
                return bits(p -> leastLie(p) >= 0, n());
            case "judges":
                return judgesOf();
            case "mean":
                if (a[0] != 0 && a[0] != 1) {
                    return -2;
                }
                long sum = 0;
                for (int p = 0; p < n(); p++) {
                    sum += weights(p)[told.kinds];
                }
                return part(sum, a[0]);
            case "drawn":
                return a[0] < 0 || a[0] > 2000000000 || a[1] < 0 || a[1] > 1 ? -2 : spring(a[0], a[1], 0);
            case "luck":
                if (!person(a[2]) || a[0] < 0 || a[0] > 2000000000 || a[1] < 1 || a[1] > 20) {
                    return -2;
                }
                int lucky = 0;
                for (int i = 0; i < a[1]; i++) {
                    lucky += spring(a[0] + i, 2, a[2]);
                }
                return lucky;
            default:
                return pairs(name);
        }
    }

    private int pairs(String name) {
        int trades = 0;
        int treaties = 0;
        int first = -1;
        for (int p = n() - 1; p >= 0; p--) {
            for (int q = n() - 1; q > p; q--) {
                World w = changed(p, q);
                if (w.has(p) > at(0).has(p) && w.has(q) > at(0).has(q)) {
                    trades++;
                    first = 10 * p + q;
                }
                treaties += got(p, q, 1, 1) > got(p, q, 0, 0) && got(q, p, 1, 1) > got(q, p, 0, 0) ? 1 : 0;
            }
        }
        return name.equals("trades") ? trades : name.equals("trade") ? first : treaties;
    }

    private int ofSeason(String name, int[] a) {
        boolean two = name.equals("haters") || name.equals("on") || name.equals("growers");
        int s = two ? a[1] : a[0];
        if (name.equals("lasts")) {
            if (!kind(a[0])) {
                return -2;
            }
            int last = -1;
            for (int i = 0; i < 13; i++) {
                for (int p = 0; p < n(); p++) {
                    last = at(i).grows(p) == a[0] ? i : last;
                }
            }
            return last;
        }
        if (!season(s) || two && !(name.equals("on") ? person(a[0]) : kind(a[0]))) {
            return name.equals("all") ? -10000 : -2;
        }
        World w = at(s);
        int found = -1;
        switch (name) {
            case "haters":
                return bits(p -> w.openly(p, a[0]), n());
            case "on":
                return w.row.get(a[0]);
            case "bare":
                return bits(p -> w.grows(p) == -1, n());
            case "growers":
                return bits(p -> w.grows(p) == a[0], n());
            case "kinds":
                return (int) w.row.stream().map(w::grows).filter(k -> k >= 0).distinct().count();
            case "all":
                return w.all();
            case "happiest":
                for (int p = n() - 1; p >= 0; p--) {
                    found = found < 0 || w.has(p) >= w.has(found) ? p : found;
                }
                return found;
            case "foe":
                int most = 1;
                for (int k = w.kinds - 1; k >= 0; k--) {
                    int sum = 0;
                    for (int[] t : w.taste) {
                        sum += t[k] < 0 ? -t[k] : 0;
                    }
                    if (sum >= most) {
                        most = sum;
                        found = k;
                    }
                }
                return found;
            case "uncle":
                int best = 0;
                for (int p = n() - 1; p >= 0; p--) {
                    final int q = p;
                    int hated = Integer.bitCount(bits(k -> w.openly(q, k), w.kinds));
                    if (hated >= best) {
                        best = hated;
                        found = p;
                    }
                }
                return found;
            default:
                return bits(p -> bits(k -> w.openly(p, k), w.kinds) == 0, n());
        }
    }

    private int ofPerson(String name, int[] a) {
        switch (name) {
            case "taste":
                return person(a[0]) && kind(a[1]) ? told.people.get(a[0])[a[1]] : -100;
            case "likes":
                return person(a[0]) && kind(a[1]) && season(a[2]) ? at(a[2]).taste[a[0]][a[1]] : -100;
            case "life":
                int sum = 0;
                for (int s = 0; person(a[0]) && s < 13; s++) {
                    sum += at(s).has(a[0]);
                }
                return person(a[0]) ? sum : -1000;
            case "has":
                return person(a[0]) && season(a[1]) ? at(a[1]).has(a[0]) : -1000;
            case "joy":
                return person(a[0]) && season(a[1]) ? at(a[1]).joy(a[0]) : -1000;
            case "gets":
                return person(a[0]) && person(a[1]) && a[0] != a[1] && a[2] >= 0 && a[2] < 2 && a[3] >= 0 && a[3] < 2
                    ? got(a[0], a[1], a[2], a[3]) : -1000;
            case "gain":
                if (!person(a[0]) || !person(a[1]) || a[0] == a[1]) {
                    return -1000;
                }
                World c = changed(a[0], a[1]);
                return c.has(a[0]) - at(0).has(a[0]) + c.has(a[1]) - at(0).has(a[1]);
            case "worth":
                return person(a[0]) && kind(a[1]) && a[2] >= -9 && a[2] <= 9
                    ? allIfTold(a[0], a[1], a[2]) - at(0).all() : -10000;
            default:
                return person(a[0]) ? ofHim(name, a) : -2;
        }
    }

    private int ofHim(String name, int[] a) {
        int p = a[0];
        World w0 = at(0);
        switch (name) {
            case "cools": case "eats":
                if (!kind(a[1])) {
                    return -2;
                }
                int eaten = 0;
                int cool = -1;
                for (int s = 12; s >= 0; s--) {
                    eaten += at(s).grows(p) == a[1] ? 1 : 0;
                    cool = s > 0 && told.people.get(p)[a[1]] < 0 && at(s).taste[p][a[1]] >= 0 ? s : cool;
                }
                return name.equals("eats") ? eaten : cool;
            case "change":
                for (int s = 0; s < 13; s++) {
                    if (at(s).grows(p) != w0.grows(p)) {
                        return s;
                    }
                }
                return -1;
            case "ahead":
                return person(a[1]) && a[1] != p ? w0.growsBy(p, a[1]) : -2;
            case "match": case "stay":
                int found = -1;
                int most = 0;
                for (int i = n() - 1; i >= 0; i--) {
                    int g = w0.growsBy(p, i);
                    int v = name.equals("match") ? g < 0 ? 0 : w0.taste[p][g] : changed(p, w0.row.get(i)).has(p);
                    if ((i != p || name.equals("stay")) && (found < 0 || v >= most)) {
                        found = i;
                        most = v;
                    }
                }
                return found;
            case "lie":
                return leastLie(p);
            case "lies":
                int best = 0;
                for (int size = 0; size <= 5; size++) {
                    for (int set = 0; set < 1 << told.kinds; set++) {
                        boolean fit = Integer.bitCount(set) == size;
                        for (int k = 0; k < told.kinds; k++) {
                            fit &= (set >> k & 1) == 0 || w0.openly(p, k);
                        }
                        best = fit && hasIfHid(p, set) > hasIfHid(p, best) ? set : best;
                    }
                }
                return best;
            case "rests":
                if (!person(a[1]) || a[1] == p) {
                    return -2;
                }
                return bits(i -> got(p, a[1], i % 2, i / 2) >= got(p, a[1], 1 - i % 2, i / 2)
                    && got(a[1], p, i / 2, i % 2) >= got(a[1], p, 1 - i / 2, i % 2), 4);
            case "learn":
                int learn = -1;
                for (int k = 0; k < told.kinds; k++) {
                    int now = learn < 0 ? w0.all() : allIfTold(p, learn, -1);
                    learn = allIfTold(p, k, -1) > now ? k : learn;
                }
                return learn;
            case "chance":
                return a[1] == 0 || a[1] == 1 ? part(weights(p)[told.kinds], a[1]) : -2;
            case "likely":
                long[] w = weights(p);
                int likely = -1;
                for (int k = 0; k < told.kinds; k++) {
                    likely = w[k] > (likely < 0 ? 0 : w[likely]) ? k : likely;
                }
                return likely;
            default:
                return season(a[1]) ? inSeason(name, p, at(a[1])) : -2;
        }
    }

    private int inSeason(String name, int p, World w) {
        switch (name) {
            case "hates":
                return bits(k -> w.taste[p][k] < 0, w.kinds);
            case "open":
                return bits(k -> w.openly(p, k), w.kinds);
            case "loves":
                return bits(k -> w.taste[p][k] > 0, w.kinds);
            case "plot":
                return w.row.indexOf(p);
            case "decides":
                return w.decider(p);
            case "may":
                return bits(k -> w.mayBy(w.decider(p)).contains(k), w.kinds);
            case "grows":
                return w.grows(p);
            case "smell":
                return w.smell(p);
            default:
                return -77;
        }
    }
}
