import java.util.NoSuchElementException;

/** What the tests share: an answer as a text, and the count of those that are not due. */
final class Checks {
    /** One call whose answer is asked for. */
    interface Call {
        Object run();
    }

    static final String OUT = "throws.IndexOutOfBoundsException";
    static final String BAD = "throws.IllegalArgumentException";
    static final String STATE = "throws.IllegalStateException";
    static final String NO_SUCH = "throws.NoSuchElementException";

    private int right = 0;
    private int wrong = 0;

    /** The answer as a text: true and false as 1 and 0, a char by its number, an exception by its name. */
    static String answerOf(Call call) {
        Object answer;
        try {
            answer = call.run();
        } catch (IndexOutOfBoundsException | IllegalArgumentException | IllegalStateException
                | NoSuchElementException thrown) {
            return "throws." + thrown.getClass().getSimpleName();
        }
        if (answer instanceof Boolean) {
            return (Boolean) answer ? "1" : "0";
        }
        if (answer instanceof Character) {
            return Integer.toString((Character) answer);
        }
        return String.valueOf(answer);
    }

    /** Checks an answer against the one that is due: a text of the form above, or a number. */
    void due(String what, Object due, Call call) {
        same(what, String.valueOf(due), answerOf(call));
    }

    void same(String what, String due, String answer) {
        if (due.equals(answer)) {
            right++;
            return;
        }
        wrong++;
        System.out.println(what + " answered " + answer + ", due is " + due);
    }

    /** How many answers were looked at. */
    int made() {
        return right + wrong;
    }

    boolean hasFailed() {
        return wrong > 0;
    }

    /** Ends the test program: with exit code 1 if an answer was wrong, or if nothing was checked. */
    void end(String name) {
        System.out.println(name + ": " + right + " answers as due, " + wrong + " not");
        if (wrong > 0 || right == 0) {
            System.exit(1);
        }
    }
}
