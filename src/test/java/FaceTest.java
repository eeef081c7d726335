import java.lang.reflect.Constructor;
import java.lang.reflect.Field;
import java.lang.reflect.Method;
import java.lang.reflect.Modifier;
import java.util.Arrays;
import java.util.Set;
import java.util.TreeSet;

/** The face: the names, parameters, throws and constants of the document, and no other member that can be seen. */
public final class FaceTest {
    /** Behind each method a letter for each exception that it says it throws: X index, A argument, S state. */
    private static final String[] METHODS = {
        "accept(int) boolean XS", "ahead(int) int X", "close(int,int,int) boolean XA", "confer() int S",
        "count(int) int A", "curfew(int,int,int) void XA", "declare(int,int,int,int) int XAS", "earns(int) boolean X",
        "end() int S", "fly(int,int,int) int XAS", "giveBack(int,int) int XAS", "isNew(int,int) boolean X",
        "lease(int,int) int XS", "link(int,int) void XAS", "load(int,int,int,int,int,int) int XA",
        "merge(int,int) int XS", "noise(int) int X", "quota(int,int) int XA",
        "request(int,int,int,int,int,int,int,int,int) int XAS", "requestOf(int,int) int XA",
        "revise(int,int,int) int XA", "rightOf(int,int) int XA", "rights() int ", "season() int ",
        "seriesOf(int,int) int XA", "swap(int,int) void XAS", "worst(int,int,int,int) int XA"
    };

    public static void main(String[] args) {
        Class<?> face = SlotConference.class;
        Check.due("modifiers", face.getModifiers(), Modifier.PUBLIC | Modifier.FINAL);
        methods(face);
        members(face);
        constants();
        Check.finish();
    }

    private static void methods(Class<?> face) {
        Set<String> seen = new TreeSet<>();
        Set<String> names = new TreeSet<>();
        for (Method each : face.getDeclaredMethods()) {
            if (Modifier.isPublic(each.getModifiers())) {
                names.add(each.getName());
                String types = Arrays.toString(each.getParameterTypes()).replaceAll("[\\[\\] ]", "");
                seen.add(each.getName() + "(" + types + ") " + each.getReturnType() + " " + thrown(each));
            }
        }
        Check.due("public methods", seen.toString(), new TreeSet<>(Arrays.asList(METHODS)).toString());
        for (Method each : face.getDeclaredMethods()) {
            boolean isPrivate = Modifier.isPrivate(each.getModifiers());
            Check.due("hidden " + each, isPrivate && !names.contains(each.getName()), !Modifier.isPublic(each.getModifiers()));
        }
    }

    private static String thrown(Method method) {
        StringBuilder letters = new StringBuilder();
        for (Class<?> each : method.getExceptionTypes()) {
            letters.append(each == Check.INDEX ? "X" : each == Check.ARGUMENT ? "A" : each == Check.STATE ? "S" : each);
        }
        return letters.toString();
    }

    private static void members(Class<?> face) {
        for (Field each : face.getDeclaredFields()) {
            int bits = each.getModifiers();
            boolean constant = Modifier.isPublic(bits) && Modifier.isStatic(bits) && Modifier.isFinal(bits);
            boolean hidden = Modifier.isPrivate(bits) && (!Modifier.isStatic(bits) || Modifier.isFinal(bits));
            Check.due("field " + each, constant || hidden, true);
        }
        Constructor<?>[] made = face.getDeclaredConstructors();
        Check.due("constructors", made.length, 1);
        Check.due("constructor's parameters", made[0].getParameterCount(), 0);
        Check.due("public fields", face.getFields().length, 12);
    }

    private static void constants() {
        int[] got = {
            SlotConference.NONE, SlotConference.ARRIVAL, SlotConference.DEPARTURE, SlotConference.EITHER,
            SlotConference.HISTORIC, SlotConference.CHANGED, SlotConference.NEW, SlotConference.OTHER,
            SlotConference.ASKED, SlotConference.GIVEN, SlotConference.OFFERED, SlotConference.WAITING
        };
        Check.due("constants", Arrays.toString(got), "[-1, 0, 1, 2, 0, 1, 2, 3, 0, 1, 2, 3]");
    }
}
