import java.util.List;
import java.util.function.BooleanSupplier;
import java.util.function.IntSupplier;

/** What the tests share: they count what is wrong, and end with exit code 1 if anything was. */
final class Check {
    static final Class<? extends Exception> INDEX = IndexOutOfBoundsException.class;
    static final Class<? extends Exception> ARGUMENT = IllegalArgumentException.class;
    static final Class<? extends Exception> STATE = IllegalStateException.class;

    private static int wrong = 0;
    private static int checks = 0;

    private Check() {
    }

    static void due(String what, long got, long want) {
        checks++;
        if (got != want) {
            tell(what + " answered " + got + ", due is " + want);
        }
    }

    static void due(String what, boolean got, boolean want) {
        due(what, got ? 1 : 0, want ? 1 : 0);
    }

    static void due(String what, String got, String want) {
        checks++;
        if (!got.equals(want)) {
            tell(what + " answered " + got + ", due is " + want);
        }
    }

    /** The call is to throw just that class, not one below it, and to change nothing. */
    static void refused(Real x, String what, Class<? extends Exception> want, IntSupplier call) {
        checks++;
        try {
            int got = call.getAsInt();
            tell(what + " answered " + got + ", due is " + want.getSimpleName());
        } catch (RuntimeException e) {
            if (e.getClass() != want) {
                tell(what + " threw " + e + ", due is " + want.getSimpleName());
            }
            nothingIsChanged(x.told(), x.latest(), what);
        }
    }

    static void refusedBoolean(Real x, String what, Class<? extends Exception> want, BooleanSupplier call) {
        refused(x, what, want, () -> call.getAsBoolean() ? 1 : 0);
    }

    static void refusedVoid(Real x, String what, Class<? extends Exception> want, Runnable call) {
        refused(x, what, want, () -> {
            call.run();
            return 0;
        });
    }

    /** Asks twins, because one object may not be called often enough to be asked for everything. */
    private static void nothingIsChanged(List<Step> told, Step refused, String what) {
        if (told.size() + 4 > Real.MOST_CALLS) {
            tell("no twin can be asked anything behind " + what);
            return;
        }
        for (List<Step> group : All.groups(Real.behind(told))) {
            int asked = 0;
            while (asked < group.size()) {
                Real plain = Real.behind(told);
                Real tried = Real.behind(told);
                Step.answer(refused, tried);
                // A question may make two calls, the refused one is one more.
                while (asked < group.size() && tried.callsLeft() > 2) {
                    String before = Step.answer(group.get(asked), plain);
                    due("question " + asked + " behind " + what, Step.answer(group.get(asked), tried), before);
                    asked++;
                }
            }
        }
    }

    static void tell(String text) {
        wrong++;
        if (wrong <= 40) {
            System.out.println(text);
        }
    }

    static void finish() {
        System.out.println(wrong == 0 ? checks + " checks, all as due" : wrong + " of " + checks + " checks are wrong");
        if (wrong != 0) {
            System.exit(1);
        }
    }
}
