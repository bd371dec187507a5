import java.util.ArrayList;
import java.util.List;

/**
 * A board whose answers are checked. The calls on it are kept, so that another object can be led through them:
 * of each call that throws it is checked that all that can be asked afterwards is answered as without it.
 */
abstract class BoardChecks {
    static final String OUT = Checks.OUT, BAD = Checks.BAD, STATE = Checks.STATE, NO_SUCH = Checks.NO_SUCH;
    static final int WIDTH = Sketchlock.WIDTH, HEIGHT = Sketchlock.HEIGHT, TOUCH = Sketchlock.TOUCH;
    static final int ALIGN = Sketchlock.ALIGN, OVER = Sketchlock.OVER, LEVEL = Sketchlock.LEVEL, TIE = Sketchlock.TIE;
    static final int MIN = Integer.MIN_VALUE, MAX = Integer.MAX_VALUE;
    /** The letter 26 in a text. */
    static final String PAIR = new String(Character.toChars(0x1F4D0));
    private static final int MOST_CALLS = 512;

    final Checks checks = new Checks();
    Sketchlock board = new Sketchlock();
    private final List<Checks.Call> story = new ArrayList<>();
    private String about = "";
    /** How many calls the object that is asked now may still answer; behind the 512th its answers are free. */
    private int callsLeft = MOST_CALLS;

    final void fresh(String name) {
        about = name;
        again();
    }

    /** Goes on with a new board, under the same name. */
    final void again() {
        board = new Sketchlock();
        story.clear();
        callsLeft = MOST_CALLS;
    }

    final int callsLeft() {
        return callsLeft;
    }

    final void due(Object due, String call, Checks.Call run) {
        String what = about + ": " + call;
        if (String.valueOf(due).startsWith("throws.")) {
            checks.same(what + ", and what is answered afterwards", answersAfter(null), answersAfter(run));
        }
        checks.due(what, due, run);
        story.add(run);
        callsLeft--;
        if (callsLeft < 0) {
            checks.same(what, "one of the first 512 calls", "a later one");
        }
    }

    // ---- calls with their checks

    final void letter(Object due, int letter) {
        due(due, "spell " + letter, () -> board.spell(letter));
    }

    /** Spells letters, whatever has been spelled; what the calls answer is not looked at. */
    final void spell(int... letters) {
        for (int letter : letters) {
            story.add(() -> board.spell(letter));
            callsLeft--;
            board.spell(letter);
        }
    }

    final void clear(Object due) {
        due(due, "clearSpelled", () -> board.clearSpelled());
    }

    final void box(Object due, int drawer, int x, int y, int width, int height) {
        due(due, "addBox of " + drawer + " at " + x + " " + y + ", " + width + " by " + height,
                () -> board.addBox(drawer, x, y, width, height));
    }

    /** Boxes of 5 by 5, each on the diagonal and 10 from the one before, by drawer 0. */
    final void boxes(int count) {
        for (int shape = 0; shape < count; shape++) {
            box(shape, 0, shape * 10, shape * 10, 5, 5);
        }
    }

    final void label(Object due, int drawer, int x, int y, boolean isTurned) {
        due(due, "addLabel of " + drawer + " at " + x + " " + y, () -> board.addLabel(drawer, x, y, isTurned));
    }

    final void lay(Object due, int drawer, int kind, int shape, int other) {
        due(due, "lay " + kind + " " + shape + " " + other, () -> board.lay(drawer, kind, shape, other));
    }

    final void move(Object due, int drawer, int shape, int x, int y) {
        due(due, "move " + shape + " to " + x + " " + y, () -> board.move(drawer, shape, x, y));
    }

    final void resize(Object due, int drawer, int shape, int width, int height) {
        due(due, "resize " + shape + " to " + width + " " + height, () -> board.resize(drawer, shape, width, height));
    }

    final void drop(Object due, int drawer, int rule) {
        due(due, "drop " + rule, () -> board.drop(drawer, rule));
    }

    final void back(Object due, int drawer) {
        due(due, "back " + drawer, () -> board.back(drawer));
    }

    final void on(Object due, int drawer, int branch) {
        due(due, "on " + drawer + " " + branch, () -> board.on(drawer, branch));
    }

    // ---- what is asked of a board

    /** The four numbers of a shape, kept and anew. */
    final void at(int shape, int x, int y, int width, int height) {
        int[] want = {x, y, width, height};
        for (int what = 0; what < 4; what++) {
            int asked = what;
            due(want[what], "number " + shape + " " + what, () -> board.number(shape, asked));
            due(want[what], "numberAnew " + shape + " " + what, () -> board.numberAnew(shape, asked));
        }
    }

    final void stands(Object due, int drawer) {
        due(due, "standsAt " + drawer, () -> board.standsAt(drawer));
    }

    final void branches(Object due, int drawer) {
        due(due, "branches " + drawer, () -> board.branches(drawer));
    }

    final void below(Object due, int drawer) {
        due(due, "below " + drawer, () -> board.below(drawer));
    }

    final void acts(int due) {
        due(due, "acts", () -> board.acts());
    }

    final void counts(Object due, int act) {
        due(due, "counts " + act, () -> board.counts(act));
    }

    final void isVoid(Object due, int act) {
        due(due, "isVoid " + act, () -> board.isVoid(act));
    }

    final void isThere(Object due, int shape) {
        due(due, "isThere " + shape, () -> board.isThere(shape));
    }

    final void number(Object due, int shape, int what) {
        due(due, "number " + shape + " " + what, () -> board.number(shape, what));
    }

    final void numberAnew(Object due, int shape, int what) {
        due(due, "numberAnew " + shape + " " + what, () -> board.numberAnew(shape, what));
    }

    final void isInForce(Object due, int rule) {
        due(due, "isInForce " + rule, () -> board.isInForce(rule));
    }

    final void holds(Object due, int rule) {
        due(due, "holds " + rule, () -> board.holds(rule));
    }

    final void broken(int due) {
        due(due, "broken", () -> board.broken());
    }

    final void part(Object due, int shape, boolean isForX) {
        due(due, "part of " + shape + " for " + (isForX ? "x" : "y"), () -> board.part(shape, isForX));
    }

    final void ask(Object due) {
        due(due, "ask", () -> board.ask());
    }

    final void make(int due) {
        due(due, "make", () -> board.make());
    }

    final void length(Object due, int export) {
        due(due, "length " + export, () -> board.length(export));
    }

    final void charAt(Object due, int export, int at) {
        due(due, "charAt " + export + " " + at, () -> board.charAt(export, at));
    }

    final void charAnew(Object due, int export, int at) {
        due(due, "charAnew " + export + " " + at, () -> board.charAnew(export, at));
    }

    /** The whole text of an export, by charAt and by charAnew. */
    final void exported(int export, String text) {
        length(text.length(), export);
        charAt(NO_SUCH, export, text.length());
        charAnew(NO_SUCH, export, text.length());
        Sketchlock asked = board;
        int left = callsLeft;
        callsLeft = retell(null);
        StringBuilder chars = new StringBuilder();
        for (int at = 0; at < text.length(); at++) {
            note(chars, charCall(export, at, false));
        }
        callsLeft = retell(null);
        StringBuilder charsAnew = new StringBuilder();
        for (int at = 0; at < text.length(); at++) {
            note(charsAnew, charCall(export, at, true));
        }
        board = asked;
        callsLeft = left;
        StringBuilder want = new StringBuilder();
        for (char sign : text.toCharArray()) {
            want.append((int) sign).append(' ');
        }
        checks.same(about + ": the chars of " + export, want.toString(), chars.toString());
        checks.same(about + ": the chars of " + export + " anew", want.toString(), charsAnew.toString());
    }

    private Checks.Call charCall(int export, int at, boolean isAnew) {
        return () -> isAnew ? board.charAnew(export, at) : board.charAt(export, at);
    }

    final void askAndMake(int export, String text) {
        ask(export);
        make(export);
        exported(export, text);
    }

    // ---- another object with the same calls

    /** Puts a new object in the board's place and makes all calls of the story on it, and one more. */
    private int retell(Checks.Call last) {
        board = new Sketchlock();
        for (Checks.Call call : story) {
            Checks.answerOf(call);
        }
        if (last != null) {
            Checks.answerOf(last);
        }
        return MOST_CALLS - 1 - story.size();
    }

    private String answersAfter(Checks.Call last) {
        Sketchlock asked = board;
        int left = callsLeft;
        StringBuilder answers = new StringBuilder();
        callsLeft = retell(last);
        noteBoard(answers);
        callsLeft = retell(last);
        noteExports(answers);
        callsLeft = retell(last);
        noteNextCalls(answers);
        board = asked;
        callsLeft = left;
        return answers.toString();
    }

    private String note(StringBuilder answers, Checks.Call call) {
        if (callsLeft <= 0) {
            return "no call left";
        }
        callsLeft--;
        String answer = Checks.answerOf(call);
        answers.append(answer).append(' ');
        return answer;
    }

    private void noteBoard(StringBuilder answers) {
        int acts = Integer.parseInt(note(answers, () -> board.acts()));
        note(answers, () -> board.broken());
        for (int at = 0; at < 4; at++) {
            int drawer = at;
            note(answers, () -> board.standsAt(drawer));
            note(answers, () -> board.branches(drawer));
            note(answers, () -> board.below(drawer));
        }
        for (int at = 0; at <= 10; at++) {
            int shape = at;
            if (note(answers, () -> board.isThere(shape)).equals("1")) {
                noteShape(answers, shape);
            }
        }
        for (int at = 0; at <= 12; at++) {
            int rule = at;
            note(answers, () -> board.isInForce(rule));
            note(answers, () -> board.holds(rule));
        }
        for (int at = 0; at <= acts; at++) {
            int act = at;
            note(answers, () -> board.counts(act));
            note(answers, () -> board.isVoid(act));
        }
    }

    private void noteShape(StringBuilder answers, int shape) {
        for (int at = 0; at < 4; at++) {
            int what = at;
            note(answers, () -> board.number(shape, what));
            note(answers, () -> board.numberAnew(shape, what));
        }
        note(answers, () -> board.part(shape, true));
        note(answers, () -> board.part(shape, false));
    }

    private void noteExports(StringBuilder answers) {
        for (int at = 0; at <= 10; at++) {
            int export = at;
            note(answers, () -> board.length(export));
        }
        for (int at = 0; at <= 10; at++) {
            note(answers, () -> board.make());
        }
        for (int at = 0; at <= 10; at++) {
            int export = at;
            String length = note(answers, () -> board.length(export));
            int chars = length.startsWith("throws") || callsLeft <= 0 ? 0 : Integer.parseInt(length);
            for (int sign = 0; sign < chars; sign++) {
                note(answers, charCall(export, sign, sign % 9 == 8));
            }
        }
    }

    /** Calls of each kind that changes something: they go on as if nothing had been refused. */
    private void noteNextCalls(StringBuilder answers) {
        note(answers, () -> board.spell(26));
        note(answers, () -> board.addLabel(0, 1, 2, true));
        note(answers, () -> board.clearSpelled());
        note(answers, () -> board.addBox(1, 3, 4, 5, 6));
        note(answers, () -> board.lay(2, TIE, 0, 1));
        note(answers, () -> board.lay(3, WIDTH, 1, 0));
        note(answers, () -> board.move(3, 0, 7, 8));
        note(answers, () -> board.resize(2, 1, 9, 10));
        note(answers, () -> board.drop(1, 0));
        note(answers, () -> board.ask());
        for (int at = 0; at < 4; at++) {
            int drawer = at;
            note(answers, () -> board.back(drawer));
            note(answers, () -> board.back(drawer));
            note(answers, () -> board.on(drawer, 0));
        }
        note(answers, () -> board.ask());
        noteExports(answers);
    }
}
