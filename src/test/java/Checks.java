import java.nio.charset.StandardCharsets;

/** What the tests worked by hand share: a count of answers as due, and FIELDs from texts. */
class Checks {
    static final int NONE = SpiteField.NONE;

    static int passed = 0;
    static int failed = 0;
    static String promise = "";

    static void due(String call, long got, long want) {
        if (got == want) {
            passed++;
        } else {
            failed++;
            System.out.println("promise " + promise + ": " + call + " answered " + got + ", due is " + want);
        }
    }

    static void tape(SpiteField x, String text) {
        byte[] bytes = text.getBytes(StandardCharsets.ISO_8859_1);
        int before = x.count(7);
        for (int i = 0; i < bytes.length; i += 20) {
            int[] n = new int[5];
            for (int j = 0; j < 20; j++) {
                int b = i + j < bytes.length ? bytes[i + j] & 255 : 0;
                n[j / 4] = n[j / 4] << 8 | b;
            }
            x.feed(n[0], n[1], n[2], n[3], n[4]);
        }
        x.end(before + bytes.length);
    }

    static SpiteField on(String text) {
        SpiteField x = new SpiteField();
        tape(x, text);
        x.field();
        return x;
    }

    static void row(SpiteField x, int slot, long... numbers) {
        x.row(slot, 3, numbers.length);
        for (int i = 0; i < numbers.length; i++) {
            x.write(slot, i, numbers[i]);
        }
    }

    /** The text is faulty, and a new object has no FIELD by it. */
    static void fault(String text, int what, int place) {
        SpiteField x = new SpiteField();
        tape(x, text);
        due("field " + text, x.field(), -4);
        due("fault(0) of " + text, x.fault(0), what);
        due("fault(1) of " + text, x.fault(1), place);
        due("no field " + text, x.count(6), 0);
    }

    static void spoonsDue(SpiteField x, int slot, int... wanted) {
        promise = "56";
        due("spoons " + slot, x.spoons(slot), wanted[0]);
        promise = "57";
        due("surely " + slot, x.surely(slot), wanted[1]);
        promise = "58";
        due("never " + slot, x.never(slot), wanted[2]);
        promise = "59";
        due("ask " + slot, x.ask(slot), wanted[3]);
        promise = "60";
        due("leaves " + slot, x.leaves(slot), wanted[4]);
    }

    static void tell(String name) {
        System.out.println(name + ": " + passed + " passed, " + failed + " failed");
        System.exit(failed == 0 ? 0 : 1);
    }
}
