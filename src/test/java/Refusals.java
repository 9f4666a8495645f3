import java.lang.reflect.Method;
import java.util.ArrayList;
import java.util.Arrays;
import java.util.List;

/**
 * Every call that asks for a PERSON, KIND, SEASON and the like: refused one below the least and one above the
 * greatest of each, and far beyond, and where there is no FIELD; not refused at the least and the greatest; and a
 * refused call leaves all as it was.
 */
public final class Refusals extends Checks {
    /**
     * The arguments by letters: p person, q another one than the first, o any other one, l plot, k kind, s season,
     * c 0 or 1, t a taste, d a seed, n how many springs, f fades.
     */
    private record Asked(int promise, String name, String args, int refusal) { }

    private static final Asked[] CALLS = {
        new Asked(6, "taste", "pk", -100), new Asked(7, "likes", "pks", -100), new Asked(8, "hates", "ps", -2),
        new Asked(9, "open", "ps", -2), new Asked(10, "haters", "ks", -2), new Asked(11, "on", "ls", -2),
        new Asked(12, "plot", "ps", -2), new Asked(13, "decides", "ps", -2), new Asked(14, "may", "ps", -2),
        new Asked(15, "grows", "ps", -2), new Asked(16, "bare", "s", -2), new Asked(17, "growers", "ks", -2),
        new Asked(18, "kinds", "s", -2), new Asked(19, "has", "ps", -1000), new Asked(20, "life", "p", -1000),
        new Asked(21, "all", "s", -10000), new Asked(22, "happiest", "s", -2), new Asked(23, "fails", "", -2),
        new Asked(24, "peace", "", -2), new Asked(25, "joy", "ps", -1000), new Asked(26, "smell", "ps", -2),
        new Asked(27, "foe", "s", -2), new Asked(28, "cools", "pk", -2), new Asked(29, "eats", "pk", -2),
        new Asked(30, "lasts", "k", -2), new Asked(31, "lean", "", -2), new Asked(32, "change", "p", -2),
        new Asked(33, "uncle", "s", -2), new Asked(34, "saints", "s", -2), new Asked(35, "loves", "ps", -2),
        new Asked(36, "ahead", "pq", -2), new Asked(37, "match", "p", -2), new Asked(38, "stay", "p", -2),
        new Asked(39, "treaties", "", -2), new Asked(40, "best", "", -10000), new Asked(41, "order", "l", -2),
        new Asked(42, "ways", "", -2), new Asked(43, "fewest", "", -2), new Asked(44, "full", "", -2),
        new Asked(45, "clear", "", -2), new Asked(46, "lie", "p", -2), new Asked(47, "lies", "p", -2),
        new Asked(48, "liars", "", -2), new Asked(49, "rests", "pq", -2), new Asked(50, "gets", "pqcc", -1000),
        new Asked(51, "worth", "pkt", -10000), new Asked(52, "learn", "p", -2), new Asked(53, "trades", "", -2),
        new Asked(54, "trade", "", -2), new Asked(55, "gain", "pq", -1000), new Asked(61, "judges", "", -2),
        new Asked(62, "chance", "pc", -2), new Asked(63, "mean", "c", -2), new Asked(64, "likely", "p", -2),
        new Asked(65, "swap", "pos", -2), new Asked(66, "hide", "pksc", -2), new Asked(68, "anew", "", -2),
        new Asked(69, "drawn", "dc", -2), new Asked(70, "luck", "dnp", -2), new Asked(71, "rate", "f", -2),
    };

    private static final String NOBODY = "field kinds 2 law 3 fades 1 odds 4;";
    private static final String ONE = "field kinds 1 law 2 fades 1 odds 4;person hates 0 3;";
    private static final String TWO = "field kinds 2 law 3 fades 2 odds 7;person loves 1 9;person hates 1 9 hates 0 1;";
    private static final String SIX = "field kinds 5 law 2 fades 0 odds 10;person hates 0 9;person hates 1 9;"
        + "person hates 2 9;person hates 3 9;person hates 4 9;person loves 4 9;";
    private static final String[] TEXTS = {NOBODY, ONE, TWO, SIX};

    /** The least and the greatest that a letter may be; of no PERSONS the greatest is below the least. */
    private static int[] bounds(char letter, SpiteField x) {
        switch (letter) {
            case 'k': return new int[] {0, x.count(0) - 1};
            case 's': return new int[] {0, 12};
            case 'c': return new int[] {0, 1};
            case 't': return new int[] {-9, 9};
            case 'd': return new int[] {0, 2000000000};
            case 'n': return new int[] {1, 20};
            case 'f': return new int[] {0, 3};
            default: return new int[] {0, x.count(4) - 1};
        }
    }

    private static Method method(String name) {
        return Arrays.stream(SpiteField.class.getDeclaredMethods()).filter(m -> m.getName().equals(name)).findFirst()
            .orElseThrow();
    }

    private static int call(SpiteField x, Asked asked, int[] args) throws ReflectiveOperationException {
        Object[] given = Arrays.stream(args).boxed().toArray();
        return (Integer) method(asked.name).invoke(x, given);
    }

    /** All that can be seen of an object, short of 200 calls. */
    private static String seen(SpiteField x) {
        List<Integer> list = new ArrayList<>();
        for (int what = 0; what < 9; what++) {
            list.add(x.count(what));
        }
        for (int s = 0; s < 13; s += 4) {
            for (int p = 0; p < x.count(4); p++) {
                list.addAll(List.of(x.on(p, s), x.open(p, s), x.has(p, s), x.grows(p, s)));
            }
            list.add(x.all(s));
        }
        for (int slot = 0; slot < 4; slot++) {
            list.add(x.spoons(slot));
        }
        list.addAll(List.of(x.best(), x.fault(0), x.fault(1)));
        return list.toString();
    }

    private static SpiteField made(String text) {
        SpiteField x = on(text);
        row(x, 1, 0, 0);
        x.feed(1, 2, 3, 4, 5);
        return x;
    }

    private static void refused(Asked asked, String text, int[] args) throws ReflectiveOperationException {
        SpiteField x = made(text);
        String before = seen(x);
        due(asked.name + Arrays.toString(args) + " on " + text, call(x, asked, args), asked.refusal);
        due(asked.name + Arrays.toString(args) + " leaves all", seen(x).equals(before) ? 1 : 0, 1);
    }

    private static void answered(Asked asked, String text, int[] args) throws ReflectiveOperationException {
        boolean isRefused = call(made(text), asked, args) == asked.refusal;
        due(asked.name + Arrays.toString(args) + " is refused on " + text, isRefused ? 1 : 0, 0);
    }

    /** Arguments at their least or greatest, by the bits of a number; another PERSON is at the other end. */
    private static int[] edge(Asked asked, SpiteField x, int bits) {
        int[] args = new int[asked.args.length()];
        for (int i = 0; i < args.length; i++) {
            int[] bounds = bounds(asked.args.charAt(i), x);
            args[i] = bounds[asked.args.charAt(i) == 'q' ? 1 - (bits & 1) : bits >> i & 1];
        }
        return args;
    }

    private static boolean areThere(Asked asked, SpiteField x) {
        boolean one = asked.args.matches(".*[pol].*");
        return x.count(4) >= (asked.args.contains("q") ? 2 : one ? 1 : 0);
    }

    private static void sweep(Asked asked, String text) throws ReflectiveOperationException {
        SpiteField x = made(text);
        int length = asked.args.length();
        for (int bits = 0; bits < 1 << length; bits++) {
            int[] right = edge(asked, x, bits);
            if (areThere(asked, x)) {
                answered(asked, text, right);
            } else {
                refused(asked, text, right);
            }
            for (int i = 0; i < length; i++) {
                int[] bounds = bounds(asked.args.charAt(i), x);
                for (int wrong : new int[] {bounds[0] - 1, bounds[1] + 1, Integer.MIN_VALUE, Integer.MAX_VALUE}) {
                    int[] args = right.clone();
                    args[i] = wrong;
                    refused(asked, text, args);
                }
                if (asked.args.charAt(i) == 'q') {
                    int[] args = right.clone();
                    args[i] = args[0];
                    refused(asked, text, args);
                }
            }
        }
        int[] none = new int[length];
        Arrays.fill(none, -1);
        if (length > 0) {
            refused(asked, text, none);
        }
    }

    /** No FIELD: never one, one that an empty text took away, one that an IMAGE of none took away. */
    private static List<SpiteField> withoutField() {
        SpiteField emptied = on(SIX);
        emptied.swap(0, 1, 0);
        emptied.field();
        SpiteField wentBack = new SpiteField();
        wentBack.image(2);
        tape(wentBack, SIX);
        wentBack.field();
        wentBack.hide(0, 0, 0, 1);
        wentBack.back(2);
        SpiteField faulty = on("field kinds 9");
        return List.of(new SpiteField(), emptied, wentBack, faulty);
    }

    private static void withoutField(Asked asked) throws ReflectiveOperationException {
        for (int i = 0; i < 4; i++) {
            SpiteField x = withoutField().get(i);
            int[] args = new int[asked.args.length()];
            for (int j = 0; j < args.length; j++) {
                char letter = asked.args.charAt(j);
                args[j] = letter == 'q' || letter == 'n' ? 1 : 0;
            }
            String before = seen(x);
            due(asked.name + " without a field, " + i, call(x, asked, args), asked.refusal);
            due(asked.name + " without a field leaves all, " + i, seen(x).equals(before) ? 1 : 0, 1);
        }
    }

    public static void main(String[] args) throws ReflectiveOperationException {
        for (Asked asked : CALLS) {
            promise = String.valueOf(asked.promise);
            withoutField(asked);
            for (String text : TEXTS) {
                sweep(asked, text);
            }
        }
        tell("Refusals");
    }
}
