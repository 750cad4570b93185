import java.lang.reflect.Constructor;
import java.lang.reflect.Field;
import java.lang.reflect.Method;
import java.lang.reflect.Modifier;
import java.util.Arrays;
import java.util.Set;
import java.util.TreeSet;
import java.util.stream.Collectors;

/** The class shows the face of the document, and nothing else. */
public final class FaceTest {
    private static final String[] FACE = {
        "int addFlat(int,int) IllegalArgumentException,IllegalStateException",
        "int addTenant(int,int,int,int) IllegalArgumentException,IllegalStateException",
        "int removeTenant(int) NoSuchElementException,IllegalStateException",
        "int moveIn(int,int) NoSuchElementException,IndexOutOfBoundsException,IllegalStateException,"
            + "UnsupportedOperationException",
        "int moveOut(int) NoSuchElementException,IllegalStateException",
        "int setRent(int,int) IndexOutOfBoundsException,IllegalArgumentException",
        "int give(int,int) NoSuchElementException,IllegalArgumentException",
        "int settle() ",
        "int pass(int) IllegalArgumentException",
        "int flats() ",
        "int floorOf(int) IndexOutOfBoundsException",
        "int rentOf(int) IndexOutOfBoundsException",
        "int tenantIn(int) IndexOutOfBoundsException,NoSuchElementException",
        "int vacantFlats() ",
        "int tenants() ",
        "boolean isPresent(int) ",
        "int weightOf(int) NoSuchElementException",
        "int purseOf(int) NoSuchElementException",
        "int noticesOf(int) NoSuchElementException",
        "int flatOf(int) NoSuchElementException",
        "int burden(int,int) NoSuchElementException,IndexOutOfBoundsException",
        "int flatByRank(int,int) NoSuchElementException",
        "int tenantByPurse(int) NoSuchElementException",
        "int creak(int) IndexOutOfBoundsException",
        "int censuses() ",
        "int censusesBySets() ",
        "int possibleFloors(int) NoSuchElementException",
        "int plannedFlat(int) NoSuchElementException",
        "int plannedFlatByPlans(int) NoSuchElementException",
        "int stablePlans() ",
        "boolean isStable() ",
        "int chainLength(int) NoSuchElementException",
        "int monthsUntilEviction() NoSuchElementException",
        "int month() ",
        "long received() ",
        "long receivedByParts() ",
        "int paidRents() ",
        "int evictions() ",
        "double meanBurden() ArithmeticException",
        "float occupancy() ArithmeticException",
        "boolean isConsistent() ",
        "int writeFloor(int) IndexOutOfBoundsException",
        "int writePlan() ",
        "char charAt(int) IndexOutOfBoundsException",
        "int type(char) IllegalStateException",
        "int run() IllegalArgumentException,UnsupportedOperationException",
        "int errorPosition() NoSuchElementException",
        "int failedCommand() NoSuchElementException",
        "int undo() IllegalStateException",
        "int save() ",
        "int restore() IllegalStateException",
    };

    private FaceTest() {
    }

    public static void main(String[] args) {
        Class<?> face = TenantCensus.class;
        Check.same("modifiers", face.getModifiers(), Modifier.PUBLIC | Modifier.FINAL);
        Set<String> shown = new TreeSet<>();
        Set<String> hidden = new TreeSet<>();
        for (Method method : face.getDeclaredMethods()) {
            if (Modifier.isPrivate(method.getModifiers())) {
                hidden.add(method.getName());
            } else {
                shown.add(describe(method));
                Check.same(method.getName(), method.getModifiers(), Modifier.PUBLIC);
            }
        }
        Check.same("the methods", shown, new TreeSet<>(Arrays.asList(FACE)));
        for (String line : FACE) {
            String name = line.substring(line.indexOf(' ') + 1, line.indexOf('('));
            Check.no("a private " + name, hidden.contains(name));
        }
        checkConstructorsAndFields(face);
        Check.end("FaceTest");
    }

    private static void checkConstructorsAndFields(Class<?> face) {
        Constructor<?>[] constructors = face.getDeclaredConstructors();
        Check.same("constructors", constructors.length, 1);
        Check.same("constructor", constructors[0].toString(), "public TenantCensus()");
        for (Field field : face.getDeclaredFields()) {
            Check.yes(field.getName() + " is private", Modifier.isPrivate(field.getModifiers()));
            boolean fixed = Modifier.isFinal(field.getModifiers());
            Check.yes(field.getName() + " is no static variable", fixed || !Modifier.isStatic(field.getModifiers()));
        }
    }

    private static String describe(Method method) {
        return method.getReturnType() + " " + method.getName() + "("
            + Arrays.stream(method.getParameterTypes()).map(Class::toString).collect(Collectors.joining(","))
            + ") "
            + Arrays.stream(method.getExceptionTypes()).map(Class::getSimpleName).collect(Collectors.joining(","));
    }
}
