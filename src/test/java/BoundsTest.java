import java.lang.reflect.Method;
import java.util.Arrays;
import java.util.Comparator;
import java.util.Set;
import java.util.TreeSet;

/**
 * The document's boundary cases, a test for each sentence. A test is a method whose name begins with the place of its
 * sentence: whatItIs, termsI to termsIV, promise01 to promise43.
 */
public final class BoundsTest {
    private static final String NAMED = "(whatItIs|terms(I|II|III|IV)|promise[0-9][0-9])_.+";

    public static void main(String[] args) throws Exception {
        Check check = new Check();
        Set<String> places = new TreeSet<>();
        for (Bounds bounds : new Bounds[] {new TextBounds(), new WeekBounds(), new PlanBounds(), new ToldBounds()}) {
            bounds.countIn(check);
            Method[] methods = bounds.getClass().getDeclaredMethods();
            Arrays.sort(methods, Comparator.comparing(Method::getName));
            for (Method method : methods) {
                if (method.getName().matches(NAMED)) {
                    check.sentence(method.getName());
                    method.invoke(bounds);
                    places.add(method.getName().replaceAll("_.*", ""));
                }
            }
        }
        check.sentence("all sentences");
        for (int promise = 1; promise <= 43; promise++) {
            String place = String.format("promise%02d", promise);
            check.due("a test of " + place, places.contains(place), true);
        }
        for (String place : new String[] {"whatItIs", "termsI", "termsII", "termsIII", "termsIV"}) {
            check.due("a test of " + place, places.contains(place), true);
        }
        check.end("BoundsTest");
    }
}
