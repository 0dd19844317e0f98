import java.lang.reflect.Method;
import java.lang.reflect.Modifier;
import java.util.ArrayList;
import java.util.Arrays;
import java.util.Comparator;
import java.util.List;
import java.util.Random;

/** Random runs of calls, each answered by the class and by the model: all promises at once. */
public final class ModelTest {
    private static final String[] NAMES = {"a", "b", "c", "d", "e", "f", "g", "h", "i", "j", "k", "annabell", "sundays"};
    private static final String[] VARS = {"fee", "hours", "hour", "rested", "worn", "worth", "week", "which", "others"};
    private final Random random;
    private final List<String> log = new ArrayList<>();
    private int wrong = 0;
    /** Whether texts may have more ifs and brackets than there is room for. */
    private boolean wild = false;
    /** How often things are undone in this run, so that some runs undo far and some go far. */
    private final int undoing;

    private ModelTest(long seed) {
        random = new Random(seed);
        undoing = random.nextInt(3) * random.nextInt(6);
    }

    public static void main(String[] args) throws Exception {
        int runs = args.length > 0 ? Integer.parseInt(args[0]) : 1500;
        long from = args.length > 1 ? Long.parseLong(args[1]) : 1;
        int wrong = 0;
        for (int run = 0; run < runs && wrong < 3; run++) {
            ModelTest test = new ModelTest(from + run);
            test.run();
            wrong += test.wrong;
        }
        for (int run = 0; run < runs && wrong < 3; run++) {
            ModelTest test = new ModelTest(from + run);
            test.readMany();
            wrong += test.wrong;
        }
        System.out.println("ModelTest: " + runs + " runs, " + wrong + " wrong");
        if (wrong != 0) {
            System.exit(1);
        }
    }

    private static Method[] face() {
        Method[] all = Arrays.stream(LentSundays.class.getDeclaredMethods())
            .filter(m -> Modifier.isPublic(m.getModifiers())).toArray(Method[]::new);
        Arrays.sort(all, Comparator.comparing(Method::getName));
        return all;
    }

    private void run() throws Exception {
        LentSundays x = new LentSundays();
        Model model = new Model();
        Method[] face = face();
        int calls = 0;
        load(x, model, goodText());
        for (; calls < 500 && wrong == 0; calls++) {
            if (random.nextInt(150) == 0 || x.count(0) == 0 && random.nextInt(20) == 0) {
                load(x, model, random.nextInt(3) == 0 ? badText() : goodText());
            }
            Method method = random.nextInt(3) == 0 ? handMethod() : face[random.nextInt(face.length)];
            if (random.nextInt(100) < oftenness(method.getName())) {
                ask(x, model, method, arguments(method));
            }
        }
    }

    /** Of 100: what ends a run's state, and what is slow in the model, comes less often. */
    private static int oftenness(String name) {
        switch (name) {
            case "read":
                return 4;
            case "feed":
            case "restore":
            case "forget":
            case "sell":
                return 15;
            case "letting":
            case "fewest":
            case "year":
            case "best":
                return 30;
            default:
                return 100;
        }
    }

    /** Texts alone, with faults of all sorts. */
    private void readMany() throws Exception {
        LentSundays x = new LentSundays();
        Model model = new Model();
        for (int i = 0; i < 20 && wrong == 0; i++) {
            load(x, model, badText());
            for (int what = 0; what < 19; what++) {
                ask(x, model, LentSundays.class.getMethod("count", int.class), new Object[] {what});
            }
        }
    }

    private Method handMethod() throws Exception {
        int kind = random.nextInt(20);
        if (kind < undoing) {
            return LentSundays.class.getMethod("undo");
        }
        if (kind < 13) {
            return LentSundays.class.getMethod("letIn", int.class, int.class);
        }
        return kind < 15 ? LentSundays.class.getMethod("putOut", int.class)
            : kind < 17 ? LentSundays.class.getMethod("air", int.class)
            : LentSundays.class.getMethod("weeks", int.class);
    }

    private Object[] arguments(Method method) {
        Class<?>[] types = method.getParameterTypes();
        Object[] values = new Object[types.length];
        for (int i = 0; i < types.length; i++) {
            values[i] = types[i] == boolean.class ? (Object) random.nextBoolean() : (Object) argument(method.getName(), i);
        }
        return values;
    }

    private int argument(String name, int i) {
        int kind = random.nextInt(40);
        if (kind == 0) {
            return random.nextInt();
        }
        if (kind == 1) {
            return new int[] {Integer.MIN_VALUE, Integer.MAX_VALUE, -2, -1, 19, 20, 21, 24, 40, 41, 99, 100}[random.nextInt(12)];
        }
        switch (name) {
            case "count":
                return random.nextInt(20);
            case "weeks":
                return random.nextInt(6) == 0 ? random.nextInt(42) : random.nextInt(4);
            case "back":
            case "tell":
                return random.nextInt(25);
            case "fewest":
            case "tangle":
            case "payer":
            case "first":
                return what(2);
            case "whose":
            case "look":
                return i == 0 ? random.nextInt(1 + random.nextInt(1 + random.nextInt(21))) : what(2);
            case "hold":
            case "restore":
                return random.nextInt(4);
            case "letting":
                return random.nextInt(6) - 1;
            case "used":
                return i == 0 ? aSunday() : random.nextInt(101);
            case "at":
                return i == 0 ? aSunday() : random.nextInt(25);
            case "price":
            case "best":
            case "wornIn":
                return i == 0 ? aSunday() : i == 1 ? random.nextInt(42) : what(2);
            case "then":
            case "year":
                return i == 0 ? aGuest() : i == 1 ? random.nextInt(42) : name.equals("then") ? what(3) : random.nextInt(22);
            case "earned":
                return random.nextInt(42);
            case "sunday":
                return i == 0 ? aSunday() : what(7);
            case "guest":
                return i == 0 ? aGuest() : what(8);
            case "alone":
            case "gap":
                return i == 0 ? aSunday() : what(2);
            case "row":
                return i == 0 ? aSunday() : what(3);
            case "sell":
            case "air":
                return aSunday();
            case "letIn":
                return i == 0 ? aGuest() : aSunday();
            default:
                return aGuest();
        }
    }

    private int what(int kinds) {
        return random.nextInt(20) == 0 ? kinds : random.nextInt(kinds);
    }

    private int aSunday() {
        return random.nextInt(20) == 0 ? 4 : random.nextInt(4);
    }

    private int aGuest() {
        return random.nextInt(20) == 0 ? 7 : random.nextInt(7);
    }

    private void ask(LentSundays x, Model model, Method method, Object[] values) throws Exception {
        Method twin = Model.class.getDeclaredMethod(method.getName(), method.getParameterTypes());
        Object got = method.invoke(x, values);
        Object want = twin.invoke(model, values);
        log.add(method.getName() + Arrays.toString(values) + " = " + got);
        if (!got.equals(want)) {
            wrong++;
            System.out.println("---- a run that is wrong at its end, where " + want + " is due:");
            log.forEach(System.out::println);
        }
    }

    private void load(LentSundays x, Model model, String text) throws Exception {
        Method feed = LentSundays.class.getMethod("feed", int.class, int.class, int.class, int.class, int.class);
        log.add("text: " + text);
        byte[] bytes = Check.bytes(text);
        ask(x, model, LentSundays.class.getMethod("back", int.class), new Object[] {x.count(8)});
        for (int from = 0; from < bytes.length; from += 20) {
            Object[] words = new Object[5];
            for (int w = 0; w < 5; w++) {
                int word = 0;
                for (int i = 0; i < 4; i++) {
                    int place = from + 4 * w + i;
                    word = word << 8 | (place < bytes.length ? bytes[place] & 255 : 32);
                }
                words[w] = word;
            }
            ask(x, model, feed, words);
        }
        int more = Math.min(x.count(8), (20 - bytes.length % 20) % 20);
        ask(x, model, LentSundays.class.getMethod("back", int.class), new Object[] {more});
        ask(x, model, LentSundays.class.getMethod("read"), new Object[0]);
        ask(x, model, LentSundays.class.getMethod("place"), new Object[0]);
    }

    // ---- texts

    private int of(int least, int most) {
        return least + random.nextInt(most - least + 1);
    }

    private String goodText() {
        StringBuilder text = new StringBuilder();
        int sundays = random.nextInt(5) == 0 ? of(0, 4) : of(2, 4);
        int guests = random.nextInt(5) == 0 ? of(0, 7) : of(4, 7);
        for (int s = 0; s < sundays; s++) {
            text.append("sunday ").append(NAMES[s]).append(' ').append(random.nextInt(3) == 0 ? of(1, 24) : of(12, 24))
                .append(' ').append(of(0, 99)).append(";");
        }
        int size = random.nextBoolean() ? 4 : 12;
        for (int g = 0; g < guests; g++) {
            text.append("guest ").append(NAMES[4 + g]).append(' ').append(random.nextInt(3) == 0 ? of(0, 23) : of(0, 12))
                .append(' ').append(of(1, size)).append(' ').append(random.nextBoolean() ? of(0, 3) : of(0, 99))
                .append(";\n");
        }
        boolean[][] foes = new boolean[7][7];
        for (int f = random.nextInt(9); f > 0 && guests > 1; f--) {
            int a = random.nextInt(guests);
            int b = random.nextInt(guests);
            if (a != b && !foes[a][b]) {
                foes[a][b] = true;
                foes[b][a] = true;
                text.append("foes ").append(NAMES[4 + a]).append(' ').append(NAMES[4 + b]).append(';');
            }
        }
        for (String law : new String[] {"pays", "rests", "wears", "sells", "pays", "rests"}) {
            if (random.nextInt(5) < 3) {
                String told = law + law(random.nextInt(3)) + ";";
                if (text.length() + told.length() < 1950) {
                    text.append(told);
                }
            }
        }
        if (random.nextInt(4) != 0) {
            text.append("death ").append(random.nextInt(3) == 0 ? of(1, 999) : of(1, 60)).append(';');
        }
        if (random.nextInt(4) != 0) {
            text.append("seed ").append(of(0, 9999)).append("; ");
        }
        return text.toString();
    }

    private String law(int depth) {
        StringBuilder law = new StringBuilder(" = ");
        for (int ifs = random.nextInt(4) == 0 ? random.nextInt(wild ? 6 : 5) : random.nextInt(2); ifs > 0; ifs--) {
            law.append("if ").append(sum(depth)).append('<').append(sum(1)).append(" then ").append(sum(depth))
                .append(" else ");
        }
        return law.append(sum(depth)).toString();
    }

    private String sum(int depth) {
        StringBuilder sum = new StringBuilder(product(depth));
        while (random.nextInt(3) == 0) {
            sum.append(random.nextBoolean() ? "+" : " - ").append(product(depth));
        }
        return sum.toString();
    }

    private String product(int depth) {
        StringBuilder product = new StringBuilder(unit(depth));
        while (random.nextInt(4) == 0) {
            product.append(random.nextBoolean() ? "*" : " / ").append(unit(depth));
        }
        return product.toString();
    }

    private String unit(int depth) {
        if (depth > 0 && random.nextInt(3) == 0) {
            return "(" + sum(depth - 1) + ")";
        }
        if (random.nextInt(60) == 0) {
            int n = of(2, wild ? 7 : 4);
            return "(".repeat(n) + "week" + ")".repeat(n);
        }
        if (random.nextBoolean()) {
            return VARS[random.nextInt(VARS.length)];
        }
        return "" + (random.nextInt(5) == 0 ? of(0, 9999) : of(0, 5));
    }

    private String badText() {
        wild = random.nextInt(4) == 0;
        StringBuilder text = new StringBuilder(goodText());
        wild = false;
        for (int n = random.nextInt(4); n > 0; n--) {
            int place = random.nextInt(text.length() + 1);
            switch (random.nextInt(9)) {
                case 0 -> text.setLength(place);
                case 1 -> text.insert(place, (char) random.nextInt(256));
                case 2 -> text.insert(place, ";=+-*/<() .09az".charAt(random.nextInt(15)));
                case 3 -> text.delete(place, Math.min(text.length(), place + of(1, 4)));
                case 4 -> insertTell(text, "sunday " + NAMES[random.nextInt(13)] + " " + of(0, 26) + " " + of(0, 102) + ";");
                case 5 -> insertTell(text, "guest " + NAMES[random.nextInt(13)] + " " + of(0, 25) + " " + of(0, 14) + " "
                    + of(0, 102) + ";");
                case 6 -> insertTell(text, "foes " + NAMES[random.nextInt(13)] + " " + NAMES[random.nextInt(13)] + ";");
                case 7 -> insertTell(text, "death " + of(0, 1100) + ";".repeat(of(0, 3) / 2) + "seed " + of(0, 12000) + ";");
                default -> insertTell(text, "seed 1;".repeat(of(60, 134)));
            }
        }
        if (text.length() > 2000) {
            text.setLength(2000);
        }
        return text.toString();
    }

    private void insertTell(StringBuilder text, String tell) {
        int from = random.nextInt(text.length() + 1);
        text.insert(text.indexOf(";", from) + 1, tell);
    }
}
