import java.io.IOException;
import java.lang.management.ManagementFactory;
import java.lang.reflect.Method;
import java.lang.reflect.Modifier;
import java.nio.file.Files;
import java.nio.file.Path;
import java.util.Arrays;
import java.util.HashSet;
import java.util.Random;
import java.util.Set;
import java.util.TreeSet;
import java.util.regex.Matcher;
import java.util.regex.Pattern;

/** The face of the document, the rules of the language that can be looked at from outside, and that nothing throws. */
public final class FaceTest {
    private static final Check CHECK = new Check();
    private static final Set<String> FACE = Set.of("int feed(int,int,int,int,int)", "int back(int)", "int read()",
        "int place()", "int sunday(int,int)", "int guest(int,int)", "int at(int,int)", "boolean letIn(int,int)",
        "boolean putOut(int)", "int sell(int)", "boolean air(int)", "int weeks(int)", "boolean undo()",
        "int alone(int,int)", "int letting(int)", "int fewest(int)", "int colours()", "int tangle(int)",
        "int fitting(int)", "int row(int,int)", "int change(int,int)", "int payer(int)", "int idle()",
        "int used(int,int)", "int first(int)", "int gap(int,int)", "int room(int)", "int price(int,int)",
        "int best(int,int,int)", "int weary(int)", "int earned(int)", "int rivals(int)", "int then(int,int,int)",
        "int wornIn(int,int)", "int year(int,int,int)", "int tell(int,boolean)", "int forget()", "int whose(int,int)",
        "int look(int)", "boolean hold(int)", "boolean restore(int)", "int count(int)");

    public static void main(String[] args) throws Exception {
        hasTheFace();
        keepsToTheLanguage();
        makesNothingInCalls();
        neverThrows();
        CHECK.end("FaceTest");
    }

    private static void hasTheFace() throws Exception {
        Set<String> seen = new TreeSet<>();
        Set<String> names = new HashSet<>();
        for (Method m : LentSundays.class.getDeclaredMethods()) {
            if (Modifier.isPublic(m.getModifiers())) {
                StringBuilder types = new StringBuilder();
                for (Class<?> type : m.getParameterTypes()) {
                    types.append(types.length() == 0 ? "" : ",").append(type);
                }
                seen.add(m.getReturnType() + " " + m.getName() + "(" + types + ")");
                names.add(m.getName());
            }
        }
        if (!seen.equals(FACE)) {
            System.out.println("the face is " + seen);
        }
        CHECK.due("the face", seen.equals(FACE), true);
        Class<?>[] inside = LentSundays.class.getDeclaredClasses();
        for (Class<?> type : inside) {
            CHECK.due("static: " + type, Modifier.isStatic(type.getModifiers()), true);
            for (Method m : type.getDeclaredMethods()) {
                CHECK.due("no other bears a public name: " + m, names.contains(m.getName()), false);
                CHECK.due("seven parameters at most: " + m, m.getParameterCount() <= 7, true);
            }
            long fields = Arrays.stream(type.getDeclaredFields()).filter(f -> !Modifier.isStatic(f.getModifiers())).count();
            CHECK.due("twenty fields at most: " + type, fields <= 20, true);
        }
        CHECK.due("twelve classes at most", inside.length < 12, true);
        for (Method m : LentSundays.class.getDeclaredMethods()) {
            CHECK.due("public or private: " + m, (m.getModifiers() & (Modifier.PUBLIC | Modifier.PRIVATE)) != 0, true);
            CHECK.due("private ones have other names: " + m,
                Modifier.isPrivate(m.getModifiers()) && names.contains(m.getName()), false);
        }
        for (java.lang.reflect.Field f : LentSundays.class.getDeclaredFields()) {
            CHECK.due("private but the constant: " + f, Modifier.isPrivate(f.getModifiers()), !f.getName().equals("NONE"));
        }
        CHECK.due("the class is final", Modifier.isFinal(LentSundays.class.getModifiers()), true);
        CHECK.due("one constructor", LentSundays.class.getDeclaredConstructors().length, 1);
    }

    private static void keepsToTheLanguage() throws IOException {
        String source = Files.readString(Path.of("src/main/java/LentSundays.java"));
        String code = source.replaceAll("(?s)/\\*.*?\\*/", "").replaceAll("//[^\n]*", "").replaceAll("\"[^\"\n]*\"", "\"\"");
        Matcher bad = Pattern.compile("\\b(throw|throws|try|catch|synchronized|assert|import|package|native|var|instanceof|"
            + "protected|volatile|goto|Object|System|Thread|double|float)\\b|->|::|@|\\bstatic\\s*\\{|\"\\s*\\+|\\+\\s*\"").matcher(code);
        while (bad.find()) {
            CHECK.due("not in this language: " + bad.group(), 1, 0);
        }
        CHECK.due("plain signs alone", source.chars().allMatch(c -> c < 128), true);
    }

    /** All calls of a run live in one room: what the constructor makes is all that there is. */
    private static void makesNothingInCalls() throws Exception {
        com.sun.management.ThreadMXBean bean = (com.sun.management.ThreadMXBean) ManagementFactory.getThreadMXBean();
        long me = Thread.currentThread().getId();
        useAll(fullHouse(), 2000);
        LentSundays x = fullHouse();
        long empty = bean.getThreadAllocatedBytes(me);
        long none = bean.getThreadAllocatedBytes(me) - empty;
        long before = bean.getThreadAllocatedBytes(me);
        useAll(x, 400);
        long made = bean.getThreadAllocatedBytes(me) - before - none;
        CHECK.due("made in 400 rounds of calls, below a page: " + made, made < 4096, true);
        before = bean.getThreadAllocatedBytes(me);
        x = new LentSundays();
        made = bean.getThreadAllocatedBytes(me) - before;
        CHECK.due("made by the constructor, below 48 kB: " + made, made < 48 * 1024, true);
    }

    private static LentSundays fullHouse() {
        return Check.of("sunday a 24 1;sunday b 23 2;sunday c 22 3;sunday d 21 4;guest e 0 2 3;guest f 1 2 3;guest g 2 2 3;"
            + "guest h 3 2 3;guest i 4 2 3;guest j 5 2 3;guest k 6 2 3;foes e k;death 500;"
            + "pays = if worn < 5 then fee * (others + 1) else fee;");
    }

    private static int useAll(LentSundays x, int rounds) {
        int sum = 0;
        for (int i = 0; i < rounds; i++) {
            int g = i % 7;
            int s = i % 4;
            sum += x.sunday(s, 6) + x.guest(g, 6) + x.at(s, 3) + x.alone(s, 1) + x.letting(s) + x.fewest(1);
            sum += x.colours() + x.tangle(1) + x.fitting(g) + x.row(s, 0) + x.change(g, 1) + x.payer(0) + x.idle();
            sum += x.used(s, 50) + x.first(1) + x.gap(s, 1) + x.room(g) + x.price(s, 5) + x.best(s, 5, 0) + x.weary(g);
            sum += x.earned(5) + x.rivals(g) + x.then(g, 5, 1) + x.wornIn(s, 5) + x.year(g, 3, 3) + x.tell(g, true);
            sum += x.whose(0, 1) + x.look(0) + x.count(7) + x.count(16) + x.place();
            x.letIn(g, s);
            x.weeks(1);
            x.hold(s);
            x.restore(i % 9);
            x.putOut((g + 3) % 7);
            x.air(s);
            x.undo();
            if (i % 20 == 0) {
                x.forget();
                x.feed(0x73656564, 0x20313b20, 0x70617973, 0x3d666565, 0x3b3b2020);
                x.read();
            }
        }
        return sum;
    }

    /** More calls than an object is used for, with arguments of all sorts. */
    private static void neverThrows() throws Exception {
        Random random = new Random(5);
        int[] wild = {Integer.MIN_VALUE, -1000, -3, -2, -1, 0, 1, 2, 3, 4, 5, 6, 7, 8, 20, 24, 31, 32, 33, 40, 41, 99, 100,
            128, 512, Integer.MAX_VALUE - 3, Integer.MAX_VALUE};
        Method[] all = Arrays.stream(LentSundays.class.getDeclaredMethods())
            .filter(m -> Modifier.isPublic(m.getModifiers())).toArray(Method[]::new);
        for (int run = 0; run < 40; run++) {
            LentSundays x = run % 4 == 0 ? new LentSundays() : fullHouse();
            for (int i = 0; i < 2000; i++) {
                Method m = all[random.nextInt(all.length)];
                Object[] values = new Object[m.getParameterCount()];
                for (int k = 0; k < values.length; k++) {
                    values[k] = m.getParameterTypes()[k] == boolean.class ? (Object) random.nextBoolean()
                        : (Object) wild[random.nextInt(wild.length)];
                }
                try {
                    if (!m.getName().equals("read") || random.nextInt(30) == 0) {
                        m.invoke(x, values);
                    }
                } catch (java.lang.reflect.InvocationTargetException e) {
                    CHECK.due(m.getName() + Arrays.toString(values) + " threw " + e.getCause(), 1, 0);
                }
            }
        }
    }
}
