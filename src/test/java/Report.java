/** Counts answers that are not as due, prints them, and ends with exit code 1 if there was one. */
final class Report {
    private int asked = 0;
    private int wrong = 0;

    /** A call under test. */
    interface Call {
        Object answer();
    }

    void due(String call, Object want, Call made) {
        asked++;
        String got = told(made);
        if (!got.equals(text(want))) {
            wrong++;
            System.out.println(call + " answered " + got + ", due is " + text(want));
        }
    }

    void end(String name) {
        System.out.println(name + ": " + asked + " answers asked, " + wrong + " wrong");
        if (wrong != 0 || asked == 0) {
            System.exit(1);
        }
    }

    /** The answer as a text, or the name of what was thrown. */
    static String told(Call made) {
        try {
            return text(made.answer());
        } catch (RuntimeException thrown) {
            return "throws." + thrown.getClass().getSimpleName();
        }
    }

    private static String text(Object answer) {
        if (answer instanceof Class) {
            return "throws." + ((Class<?>) answer).getSimpleName();
        }
        return String.valueOf(answer);
    }
}
