import java.lang.reflect.Constructor;
import java.lang.reflect.Field;
import java.lang.reflect.Method;
import java.lang.reflect.Modifier;
import java.util.Set;
import java.util.TreeSet;

/** The face of the class: just the document's constant, constructor and methods. */
public final class FaceTest {
    private static final String[] FACE = {
        "public DepotNetwork()",
        "public int addItem(int depotTime, int places, int localTime) throws IllegalArgumentException, IllegalStateException",
        "public int addBase(int leadTime) throws IllegalArgumentException, IllegalStateException",
        "public int itemCount()",
        "public int siteCount()",
        "public int setLink(int base, int other, int leadTime) throws IndexOutOfBoundsException, IllegalArgumentException",
        "public int setLevel(int site, int item, int level) throws IndexOutOfBoundsException, IllegalArgumentException, IllegalStateException",
        "public int setShare(int base, int item, int share) throws IndexOutOfBoundsException, IllegalArgumentException",
        "public int setReserve(int base, int item, int reserve) throws IndexOutOfBoundsException, IllegalArgumentException",
        "public int setRate(int base, int item, int rate) throws IndexOutOfBoundsException, IllegalArgumentException",
        "public int setLateralLimit(int days) throws IllegalArgumentException",
        "public boolean demand(int base, int item, int priority) throws IndexOutOfBoundsException, IllegalArgumentException, IllegalStateException",
        "public int advance(int days) throws IllegalArgumentException, IllegalStateException",
        "public int run(int seed, int days) throws IllegalArgumentException, IllegalStateException",
        "public int day()",
        "public int refusedDemands()",
        "public int level(int site, int item) throws IndexOutOfBoundsException",
        "public int onHand(int site, int item) throws IndexOutOfBoundsException",
        "public int waiting(int base, int item) throws IndexOutOfBoundsException",
        "public int topPriority(int base, int item) throws IndexOutOfBoundsException",
        "public int keptOrders(int item) throws IndexOutOfBoundsException",
        "public int dueIn(int base, int item) throws IndexOutOfBoundsException",
        "public int position(int base, int item) throws IndexOutOfBoundsException",
        "public int underWay(int item, int kind) throws IndexOutOfBoundsException, IllegalArgumentException",
        "public int fleet(int item) throws IndexOutOfBoundsException",
        "public int nextArrival(int base, int item) throws IndexOutOfBoundsException",
        "public int dueCount()",
        "public int dueDay(int index) throws IndexOutOfBoundsException",
        "public int dueKind(int index) throws IndexOutOfBoundsException",
        "public int dueItem(int index) throws IndexOutOfBoundsException",
        "public int dueSite(int index) throws IndexOutOfBoundsException",
        "public int dueOwner(int index) throws IndexOutOfBoundsException",
        "public int demands(int base, int item) throws IndexOutOfBoundsException",
        "public int fillNumerator(int base, int item) throws IndexOutOfBoundsException",
        "public int fillDenominator(int base, int item) throws IndexOutOfBoundsException",
        "public int delays(int base, int item) throws IndexOutOfBoundsException",
        "public int backorderDays(int base, int item) throws IndexOutOfBoundsException",
        "public int helped(int base, int item) throws IndexOutOfBoundsException",
        "public int bestSite(int item, int seed, int days) throws IndexOutOfBoundsException, IllegalArgumentException, IllegalStateException",
        "public int appendText(int fourBytes) throws IllegalStateException",
        "public int truncateText(int length) throws IllegalArgumentException",
        "public int load()",
        "public int errorCode()",
        "public int errorPosition()",
        "public void save(int slot) throws IllegalArgumentException",
        "public void restore(int slot) throws IllegalArgumentException, IllegalStateException",
    };

    private FaceTest() {
    }

    public static void main(String[] args) {
        Check.due(DepotNetwork.NONE, "NONE", () -> -1);
        Check.due(new TreeSet<>(Set.of(FACE)), "the face", FaceTest::visibleMembers);
        Check.due(Modifier.PUBLIC | Modifier.FINAL, "the class's modifiers",
                () -> DepotNetwork.class.getModifiers());
        Check.due(true, "fields", FaceTest::onlyNoneIsVisible);
        Check.due(true, "classes inside", FaceTest::classesInsideAreStatic);
        Check.due(true, "names of private methods", FaceTest::noPrivateMethodHasAPublicName);
        Check.end("FaceTest");
    }

    private static Set<String> visibleMembers() {
        Set<String> seen = new TreeSet<>();
        for (Constructor<?> c : DepotNetwork.class.getDeclaredConstructors()) {
            if (!Modifier.isPrivate(c.getModifiers())) {
                seen.add("public " + c.getName() + "()");
            }
        }
        for (Method m : DepotNetwork.class.getDeclaredMethods()) {
            if (!Modifier.isPrivate(m.getModifiers()) && !m.isSynthetic()) {
                seen.add(signature(m));
            }
        }
        return withoutParameterNames(seen);
    }

    private static Set<String> withoutParameterNames(Set<String> seen) {
        Set<String> named = new TreeSet<>();
        for (String member : seen) {
            String due = member;
            for (String candidate : FACE) {
                String plain = candidate.replaceAll("int \\w+([,)])", "int$1");
                if (plain.equals(member)) {
                    due = candidate;
                }
            }
            named.add(due);
        }
        return named;
    }

    private static String signature(Method m) {
        StringBuilder out = new StringBuilder(Modifier.toString(m.getModifiers()));
        out.append(' ').append(m.getReturnType()).append(' ').append(m.getName()).append('(');
        String between = "";
        for (Class<?> type : m.getParameterTypes()) {
            out.append(between).append(type);
            between = ", ";
        }
        out.append(')');
        between = " throws ";
        for (Class<?> type : m.getExceptionTypes()) {
            out.append(between).append(type.getSimpleName());
            between = ", ";
        }
        return out.toString();
    }

    private static boolean onlyNoneIsVisible() {
        for (Field f : DepotNetwork.class.getDeclaredFields()) {
            if (!Modifier.isPrivate(f.getModifiers()) && !f.getName().equals("NONE")) {
                return false;
            }
        }
        return true;
    }

    private static boolean classesInsideAreStatic() {
        for (Class<?> c : DepotNetwork.class.getDeclaredClasses()) {
            int m = c.getModifiers();
            if (!Modifier.isStatic(m) || Modifier.isPublic(m) || Modifier.isProtected(m)) {
                return false;
            }
        }
        return true;
    }

    private static boolean noPrivateMethodHasAPublicName() {
        Set<String> names = new TreeSet<>();
        for (Method m : DepotNetwork.class.getMethods()) {
            names.add(m.getName());
        }
        for (Class<?> c : DepotNetwork.class.getDeclaredClasses()) {
            for (Method m : c.getDeclaredMethods()) {
                if (names.contains(m.getName())) {
                    return false;
                }
            }
        }
        for (Method m : DepotNetwork.class.getDeclaredMethods()) {
            if (Modifier.isPrivate(m.getModifiers()) && names.contains(m.getName())) {
                return false;
            }
        }
        return true;
    }
}
