import java.lang.reflect.Constructor;
import java.lang.reflect.Field;
import java.lang.reflect.Method;
import java.lang.reflect.Modifier;
import java.util.Arrays;
import java.util.Set;
import java.util.TreeSet;

/** The face: the names, parameters and constants of the document, and no other member that can be seen. */
public final class FaceTest {
    private static final String[] METHODS = {
        "accept(int) boolean", "ahead(int) int", "close(int,int,int) boolean", "confer() int", "count(int) int",
        "curfew(int,int,int) void", "declare(int,int,int,int) int", "earns(int) boolean", "end() int",
        "fly(int,int,int) int", "giveBack(int,int) int", "isNew(int,int) boolean", "lease(int,int) int",
        "link(int,int) void", "load(int,int,int,int,int,int) int", "merge(int,int) int", "noise(int) int",
        "quota(int,int) int", "request(int,int,int,int,int,int,int,int,int) int", "requestOf(int,int) int",
        "revise(int,int,int) int", "rightOf(int,int) int", "rights() int", "season() int", "seriesOf(int,int) int",
        "swap(int,int) void", "worst(int,int,int,int) int"
    };

    public static void main(String[] args) {
        Class<?> face = SlotConference.class;
        Check.due("modifiers", face.getModifiers(), Modifier.PUBLIC | Modifier.FINAL);
        methods(face);
        members(face);
        constants();
        Check.finish();
    }

    private static void methods(Class<?> face) {
        Set<String> seen = new TreeSet<>();
        Set<String> names = new TreeSet<>();
        for (Method each : face.getDeclaredMethods()) {
            if (Modifier.isPublic(each.getModifiers())) {
                names.add(each.getName());
                String types = Arrays.toString(each.getParameterTypes()).replaceAll("[\\[\\] ]", "");
                seen.add(each.getName() + "(" + types + ") " + each.getReturnType());
            }
        }
        Check.due("public methods", seen.toString(), new TreeSet<>(Arrays.asList(METHODS)).toString());
        for (Method each : face.getDeclaredMethods()) {
            boolean isPrivate = Modifier.isPrivate(each.getModifiers());
            Check.due("hidden " + each, isPrivate && !names.contains(each.getName()), !Modifier.isPublic(each.getModifiers()));
        }
    }

    private static void members(Class<?> face) {
        for (Field each : face.getDeclaredFields()) {
            int bits = each.getModifiers();
            boolean constant = Modifier.isPublic(bits) && Modifier.isStatic(bits) && Modifier.isFinal(bits);
            boolean hidden = Modifier.isPrivate(bits) && (!Modifier.isStatic(bits) || Modifier.isFinal(bits));
            Check.due("field " + each, constant || hidden, true);
        }
        Constructor<?>[] made = face.getDeclaredConstructors();
        Check.due("constructors", made.length, 1);
        Check.due("constructor's parameters", made[0].getParameterCount(), 0);
        Check.due("public fields", face.getFields().length, 12);
    }

    private static void constants() {
        int[] got = {
            SlotConference.NONE, SlotConference.ARRIVAL, SlotConference.DEPARTURE, SlotConference.EITHER,
            SlotConference.HISTORIC, SlotConference.CHANGED, SlotConference.NEW, SlotConference.OTHER,
            SlotConference.ASKED, SlotConference.GIVEN, SlotConference.OFFERED, SlotConference.WAITING
        };
        Check.due("constants", Arrays.toString(got), "[-1, 0, 1, 2, 0, 1, 2, 3, 0, 1, 2, 3]");
    }
}
