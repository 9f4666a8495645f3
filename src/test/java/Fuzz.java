import java.lang.reflect.Method;
import java.util.ArrayList;
import java.util.Arrays;
import java.util.Comparator;
import java.util.List;
import java.util.Random;

/** Runs of chance calls (from fixed seeds), each answer held against Model's. */
public final class Fuzz {
    private static final int RUNS = 400;
    private static final int CALLS = 512;

    private final Random chance;
    private final SpiteField field = new SpiteField();
    private final Model model = new Model();
    private int calls = 0;
    private int wrong = 0;
    private final List<String> told = new ArrayList<>();

    private Fuzz(long seed) {
        chance = new Random(seed);
    }

    private void call(Method m, long... args) throws ReflectiveOperationException {
        Object[] given = new Object[args.length];
        for (int i = 0; i < args.length; i++) {
            given[i] = m.getParameterTypes()[i] == long.class ? (Object) args[i] : (Object) (int) args[i];
        }
        int got = (Integer) m.invoke(field, given);
        int want = model.call(m.getName(), args);
        calls++;
        told.add(m.getName() + Arrays.toString(args) + " = " + want);
        if (got != want) {
            wrong++;
            System.out.println(m.getName() + Arrays.toString(args) + " answered " + got + ", model has " + want);
        }
    }

    private String text() {
        int kinds = chance.nextInt(4) == 0 ? 1 + chance.nextInt(5) : 3 + chance.nextInt(3);
        StringBuilder s = new StringBuilder("field kinds " + kinds + " law " + chance.nextInt(4) + " fades "
            + chance.nextInt(4) + " odds " + chance.nextInt(11) + (chance.nextBoolean() ? " ;\n" : ";"));
        int persons = chance.nextInt(4) == 0 ? chance.nextInt(8) : 3 + chance.nextInt(4);
        for (int p = 0; p < persons; p++) {
            s.append(chance.nextInt(3) == 0 ? "person " : "person");
            int tastes = chance.nextInt(7);
            for (int t = 0; t < tastes; t++) {
                s.append(chance.nextInt(3) == 0 ? " loves" : " hates").append(chance.nextInt(5) == 0 ? "" : " ");
                s.append(chance.nextInt(kinds)).append(' ').append(1 + chance.nextInt(9));
            }
            s.append(";");
        }
        int slips = chance.nextInt(3) == 0 ? 1 + chance.nextInt(2) : 0;
        String signs = " ;0123456789aeinos\n\tX" + (char) 233 + (char) 0;
        for (int i = 0; i < slips; i++) {
            int at = chance.nextInt(s.length());
            switch (chance.nextInt(3)) {
                case 0: s.deleteCharAt(at); break;
                case 1: s.insert(at, signs.charAt(chance.nextInt(signs.length()))); break;
                default: s.setCharAt(at, signs.charAt(chance.nextInt(signs.length())));
            }
        }
        if (chance.nextInt(12) == 0) {
            s.setLength(chance.nextInt(s.length()));
        }
        return s.toString();
    }

    private void load(Method feed, Method end, Method read, Method fault) throws ReflectiveOperationException {
        String s = text();
        if (chance.nextInt(4) != 0) {
            call(end, 0);
        }
        int before = field.count(7);
        for (int i = 0; i < s.length(); i += 20) {
            long[] n = new long[5];
            for (int j = 0; j < 20; j++) {
                n[j / 4] = (int) (n[j / 4] << 8 | (i + j < s.length() ? s.charAt(i + j) : 0));
            }
            call(feed, n);
        }
        call(end, before + s.length());
        call(read);
        call(fault, 0);
        call(fault, 1);
    }

    private long argument(Method m, int i) {
        if (chance.nextInt(150) == 0) {
            return (long) new int[] {Integer.MIN_VALUE, Integer.MAX_VALUE, -7, 99, 1 << 20}[chance.nextInt(5)];
        }
        String at = m.getName() + i;
        switch (at) {
            case "write2":
                return chance.nextInt(12) == 0 ? chance.nextLong() : chance.nextInt(7) - 1;
            case "row2":
                return chance.nextInt(4) == 0 ? chance.nextInt(65) - 2 : 2 * chance.nextInt(3);
            case "row1":
                return chance.nextInt(3) == 0 ? chance.nextInt(6) - 1 : 0;
            case "drawn0": case "luck0":
                return chance.nextInt(3) == 0 ? chance.nextInt() : chance.nextInt(2000000001);
            case "luck1":
                return chance.nextInt(23);
            case "worth2":
                return chance.nextInt(23) - 11;
            case "end0":
                return chance.nextInt(900);
            case "count0":
                return chance.nextInt(11) - 1;
            case "drawn1": case "chance1": case "mean0": case "gets2": case "gets3": case "hide3": case "fault0":
                return chance.nextInt(20) == 0 ? chance.nextInt(5) - 2 : chance.nextInt(2);
            default:
                break;
        }
        int count = m.getParameterCount();
        boolean seasonal = i == count - 1 && count > 0 && List.of("likes", "hates", "open", "haters", "on", "plot",
            "decides", "may", "grows", "bare", "growers", "kinds", "has", "all", "happiest", "joy", "smell", "foe",
            "uncle", "saints", "loves", "swap").contains(m.getName()) || at.equals("hide2");
        if (seasonal) {
            return chance.nextInt(3) == 0 ? 0 : chance.nextInt(15) - 1;
        }
        return chance.nextInt(20) == 0 ? chance.nextInt(10) - 2 : chance.nextInt(5);
    }

    private int run(Method[] methods) throws ReflectiveOperationException {
        Method[] loaders = new Method[4];
        List<Method> acts = new ArrayList<>();
        List<Method> others = new ArrayList<>();
        for (Method m : methods) {
            int loader = List.of("feed", "end", "field", "fault").indexOf(m.getName());
            if (loader >= 0) {
                loaders[loader] = m;
            } else if (List.of("swap", "hide").contains(m.getName())) {
                acts.add(m);
            } else {
                others.add(m);
            }
        }
        int eager = chance.nextInt(3) == 0 ? 4 : 25;
        while (calls < CALLS - 60) {
            int what = chance.nextInt(60);
            boolean lost = field.count(6) == 0 && what < 12;
            if (what == 0 || calls == 0 || lost) {
                load(loaders[0], loaders[1], loaders[2], loaders[3]);
            } else {
                Method m = chance.nextInt(eager) == 0 ? acts.get(chance.nextInt(acts.size()))
                    : chance.nextInt(60) == 0 ? loaders[chance.nextInt(4)] : others.get(chance.nextInt(others.size()));
                boolean drop = List.of("undo", "anew", "back").contains(m.getName()) && chance.nextInt(3) != 0;
                if (!drop) {
                    long[] args = new long[m.getParameterCount()];
                    for (int i = 0; i < args.length; i++) {
                        args[i] = argument(m, i);
                    }
                    call(m, args);
                }
            }
        }
        if (wrong > 0) {
            told.forEach(System.out::println);
        }
        return wrong;
    }

    public static void main(String[] args) throws ReflectiveOperationException {
        Method[] methods = Arrays.stream(SpiteField.class.getDeclaredMethods())
            .filter(m -> java.lang.reflect.Modifier.isPublic(m.getModifiers()))
            .sorted(Comparator.comparing(Method::getName)).toArray(Method[]::new);
        int runs = args.length > 0 ? Integer.parseInt(args[0]) : RUNS;
        long from = args.length > 1 ? Long.parseLong(args[1]) : 1;
        int failed = 0;
        for (int i = 0; i < runs && failed < 3; i++) {
            if (new Fuzz(from + i).run(methods) > 0) {
                failed++;
                System.out.println("Fuzz: the run from seed " + (from + i) + " failed");
            }
        }
        if (methods.length != 77 - 1) {
            failed++;
            System.out.println("Fuzz: " + methods.length + " methods of 76");
        }
        System.out.println("Fuzz: " + (runs - failed) + " passed, " + failed + " failed");
        System.exit(failed == 0 ? 0 : 1);
    }
}
