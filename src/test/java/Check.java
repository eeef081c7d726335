import java.util.function.BooleanSupplier;
import java.util.function.IntSupplier;

/** What the tests share: they count what is wrong, and end with exit code 1 if anything was. */
final class Check {
    static final Class<? extends Exception> INDEX = IndexOutOfBoundsException.class;
    static final Class<? extends Exception> ARGUMENT = IllegalArgumentException.class;
    static final Class<? extends Exception> STATE = IllegalStateException.class;

    private static int wrong = 0;
    private static int checks = 0;

    private Check() {
    }

    static void due(String what, long got, long want) {
        checks++;
        if (got != want) {
            tell(what + " answered " + got + ", due is " + want);
        }
    }

    static void due(String what, boolean got, boolean want) {
        due(what, got ? 1 : 0, want ? 1 : 0);
    }

    static void due(String what, String got, String want) {
        checks++;
        if (!got.equals(want)) {
            tell(what + " answered\n" + got + "\ndue is\n" + want);
        }
    }

    /** The call is to throw just that class, and to change nothing that can be asked of the object. */
    static void refused(SlotConference x, String what, Class<? extends Exception> want, IntSupplier call) {
        checks++;
        String before = All.of(x);
        try {
            int got = call.getAsInt();
            tell(what + " answered " + got + ", due is " + want.getSimpleName());
        } catch (RuntimeException e) {
            if (e.getClass() != want) {
                tell(what + " threw " + e + ", due is " + want.getSimpleName());
            }
        }
        due("all answers behind " + what, All.of(x), before);
    }

    static void refusedBoolean(SlotConference x, String what, Class<? extends Exception> want, BooleanSupplier call) {
        refused(x, what, want, () -> call.getAsBoolean() ? 1 : 0);
    }

    static void refusedVoid(SlotConference x, String what, Class<? extends Exception> want, Runnable call) {
        refused(x, what, want, () -> {
            call.run();
            return 0;
        });
    }

    static void tell(String text) {
        wrong++;
        if (wrong <= 40) {
            System.out.println(text);
        }
    }

    static void finish() {
        System.out.println(wrong == 0 ? checks + " checks, all as due" : wrong + " of " + checks + " checks are wrong");
        if (wrong != 0) {
            System.exit(1);
        }
    }
}
