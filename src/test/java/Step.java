/** One call of a conference: a boolean answer counts 1 or 0, none counts 0. */
interface Step {
    int on(Conference x);

    static String answer(Step step, Conference x) {
        try {
            return String.valueOf(step.on(x));
        } catch (RuntimeException e) {
            return e.getClass().getSimpleName();
        }
    }
}
