import java.util.NoSuchElementException;

/** A shared board of shapes with rules that are kept; ../shared/DOC.md tells what each call does. */
public final class Sketchlock {
    public static final int NONE = -1;
    public static final int WIDTH = 0, HEIGHT = 1, TOUCH = 2, ALIGN = 3, OVER = 4, LEVEL = 5, TIE = 6;

    private static final int DRAWERS = 4, SHAPES = 10, RULES = 12, ACTS = 60, EXPORTS = 10;
    private static final int LETTERS = 27, PAIR_LETTER = 26, TEXT_LETTERS = 5, LETTER_SIZE = 2;
    private static final int LOWEST_PLACE = -999, HIGHEST_PLACE = 999, LOWEST_SIZE = 1, HIGHEST_SIZE = 99;

    // The numbers of a shape as the face tells them apart: the size for an axis stands AXES behind its place.
    private static final int X = 0, Y = 1, X_SIZE = 2, Y_SIZE = 3, AXES = 2, WHATS = 4;

    private static final int ADD = 0, SHIFT = 1, SIZE = 2, LAY = 3, DROP = 4;

    // Ten labels like t0:-999,-999,10,2,(ten chars); and twelve rules, r0; to r11;
    private static final int LONGEST_EXPORT = 10 * 29 + 10 * 3 + 2 * 4;

    private final int[] spelled = new int[TEXT_LETTERS];
    private int spelledLetters = 0;
    private final Shapes shapes = new Shapes();
    private final Rules rules = new Rules();
    private final Tree tree = new Tree();
    private final Replay kept = new Replay(shapes, rules, tree, false);
    private final Replay anew = new Replay(shapes, rules, tree, true);
    private final Exports exports = new Exports();
    private final ExportText text = new ExportText();

    public Sketchlock() {
    }

    // ---- the spelled text

    public int spell(int letter) throws IndexOutOfBoundsException, IllegalStateException {
        if (letter < 0 || letter >= LETTERS) {
            throw new IndexOutOfBoundsException("no such letter");
        }
        if (spelledLetters >= TEXT_LETTERS) {
            throw new IllegalStateException("the text has 5 letters");
        }
        put(spelled, spelledLetters, letter);
        spelledLetters++;
        int chars = 0;
        for (int at = 0; at < spelledLetters; at++) {
            chars += read(spelled, at) == PAIR_LETTER ? 2 : 1;
        }
        return chars;
    }

    public int clearSpelled() {
        int letters = spelledLetters;
        spelledLetters = 0;
        return letters;
    }

    // ---- acts

    public int addBox(int drawer, int x, int y, int width, int height)
            throws IndexOutOfBoundsException, IllegalArgumentException, IllegalStateException {
        requireDrawer(drawer);
        requirePlace(x, y);
        requireSize(width, height);
        int shape = shapes.made;
        if (shape >= SHAPES) {
            throw new IllegalStateException("there are 10 shapes");
        }
        tree.draft(ADD, shape, x, y, width, height);
        shapes.draft(spelled, 0, false);
        doDraft(drawer);
        shapes.made++;
        return shape;
    }

    public int addLabel(int drawer, int x, int y, boolean isTurned)
            throws IndexOutOfBoundsException, IllegalArgumentException, IllegalStateException {
        requireDrawer(drawer);
        requirePlace(x, y);
        int shape = shapes.made;
        if (spelledLetters == 0 || shape >= SHAPES) {
            throw new IllegalStateException("the text is empty, or there are 10 shapes");
        }
        tree.draft(ADD, shape, x, y, LETTER_SIZE * spelledLetters, LETTER_SIZE);
        shapes.draft(spelled, spelledLetters, isTurned);
        doDraft(drawer);
        shapes.made++;
        return shape;
    }

    public int move(int drawer, int shape, int x, int y)
            throws IndexOutOfBoundsException, IllegalArgumentException, IllegalStateException {
        requireDrawer(drawer);
        requireShape(shape);
        requirePlace(x, y);
        tree.draft(SHIFT, shape, x, y, 0, 0);
        doDraft(drawer);
        return kept.changedShapes();
    }

    public int resize(int drawer, int shape, int width, int height)
            throws IndexOutOfBoundsException, IllegalArgumentException, IllegalStateException {
        requireDrawer(drawer);
        requireShape(shape);
        requireSize(width, height);
        tree.draft(SIZE, shape, 0, 0, width, height);
        doDraft(drawer);
        return kept.changedShapes();
    }

    public int lay(int drawer, int kind, int shape, int other)
            throws IndexOutOfBoundsException, IllegalArgumentException, IllegalStateException {
        requireDrawer(drawer);
        requireShape(shape);
        requireShape(other);
        if (kind < WIDTH || kind > TIE || shape == other) {
            throw new IllegalArgumentException("no such kind, or one shape twice");
        }
        int rule = rules.made;
        if (rule >= RULES) {
            throw new IllegalStateException("there are 12 rules");
        }
        tree.draft(LAY, rule, 0, 0, 0, 0);
        rules.draft(kind, shape, other);
        doDraft(drawer);
        rules.made++;
        return rule;
    }

    public int drop(int drawer, int rule) throws IndexOutOfBoundsException, IllegalStateException {
        requireDrawer(drawer);
        requireRule(rule);
        tree.draft(DROP, rule, 0, 0, 0, 0);
        doDraft(drawer);
        return Integer.bitCount(kept.board.inForce);
    }

    // ---- trees of acts

    public int back(int drawer) throws IndexOutOfBoundsException, IllegalStateException {
        requireDrawer(drawer);
        int act = tree.standOf(drawer);
        if (act == NONE) {
            throw new IllegalStateException("the drawer stands at the root");
        }
        tree.stand(drawer, tree.aboveOf(act));
        kept.redo(tree.counting());
        return Long.bitCount(kept.voids);
    }

    public int on(int drawer, int branch) throws IndexOutOfBoundsException {
        requireDrawer(drawer);
        int act = tree.branchOf(drawer, branch);
        if (act == NONE) {
            throw new IndexOutOfBoundsException("no such branch");
        }
        tree.stand(drawer, act);
        kept.redo(tree.counting());
        return Long.bitCount(kept.voids);
    }

    public int branches(int drawer) throws IndexOutOfBoundsException {
        requireDrawer(drawer);
        return tree.countBranches(drawer);
    }

    public int below(int drawer) throws IndexOutOfBoundsException {
        requireDrawer(drawer);
        return tree.countBelow(drawer);
    }

    public int standsAt(int drawer) throws IndexOutOfBoundsException {
        requireDrawer(drawer);
        return tree.standOf(drawer);
    }

    public int acts() {
        return tree.made;
    }

    public boolean counts(int act) throws IndexOutOfBoundsException {
        requireAct(act);
        return has(tree.counting(), act);
    }

    public boolean isVoid(int act) throws IndexOutOfBoundsException {
        requireAct(act);
        return has(kept.voids, act);
    }

    // ---- the board

    public boolean isThere(int shape) throws IndexOutOfBoundsException {
        requireShape(shape);
        return has(kept.board.there, shape);
    }

    public int number(int shape, int what)
            throws IndexOutOfBoundsException, IllegalArgumentException, NoSuchElementException {
        requireShape(shape);
        requireWhat(what);
        requireOn(kept.board, shape);
        return kept.board.numberOf(shape, what);
    }

    public int numberAnew(int shape, int what)
            throws IndexOutOfBoundsException, IllegalArgumentException, NoSuchElementException {
        requireShape(shape);
        requireWhat(what);
        anew.redo(tree.counting());
        requireOn(anew.board, shape);
        return anew.board.numberOf(shape, what);
    }

    public boolean isInForce(int rule) throws IndexOutOfBoundsException {
        requireRule(rule);
        return has(kept.board.inForce, rule);
    }

    public boolean holds(int rule) throws IndexOutOfBoundsException, NoSuchElementException {
        requireRule(rule);
        requireOn(kept.board, read(rules.firsts, rule));
        requireOn(kept.board, read(rules.seconds, rule));
        if (read(rules.kinds, rule) == TIE && !has(kept.board.inForce, rule)) {
            throw new NoSuchElementException("a tie that is not in force");
        }
        return kept.board.fits(rule);
    }

    public int broken() {
        int rulesBroken = 0;
        for (int act = 0; act < ACTS; act++) {
            if (has(kept.voids, act) && tree.deedOf(act) == LAY) {
                rulesBroken++;
            }
        }
        return rulesBroken;
    }

    public int part(int shape, boolean isForX) throws IndexOutOfBoundsException, NoSuchElementException {
        requireShape(shape);
        requireOn(kept.board, shape);
        return Integer.bitCount(kept.board.groupOf(shape, isForX ? X : Y));
    }

    // ---- exports

    public int ask() throws IllegalStateException {
        int export = exports.asked;
        if (export >= EXPORTS) {
            throw new IllegalStateException("there are 10 exports");
        }
        text.show(kept.board, shapes);
        exports.keep(text, tree.counting());
        return export;
    }

    public int make() {
        if (exports.made >= exports.asked) {
            return NONE;
        }
        exports.made++;
        return exports.made - 1;
    }

    public int length(int export) throws IndexOutOfBoundsException, NoSuchElementException {
        requireMade(export);
        return exports.charsOf(export);
    }

    public char charAt(int export, int at) throws IndexOutOfBoundsException, NoSuchElementException {
        requireMade(export);
        if (at < 0 || at >= exports.charsOf(export)) {
            throw new NoSuchElementException("no such char");
        }
        return exports.signOf(export, at);
    }

    public char charAnew(int export, int at) throws IndexOutOfBoundsException, NoSuchElementException {
        requireMade(export);
        anew.redo(exports.actsOf(export));
        text.show(anew.board, shapes);
        if (at < 0 || at >= text.chars) {
            throw new NoSuchElementException("no such char");
        }
        return text.signOf(at);
    }

    // ---- what the calls share

    private void requireDrawer(int drawer) throws IndexOutOfBoundsException {
        if (drawer < 0 || drawer >= DRAWERS) {
            throw new IndexOutOfBoundsException("no such drawer");
        }
    }

    private void requireShape(int shape) throws IndexOutOfBoundsException {
        if (shape < 0 || shape >= shapes.made) {
            throw new IndexOutOfBoundsException("no such shape");
        }
    }

    private void requireRule(int rule) throws IndexOutOfBoundsException {
        if (rule < 0 || rule >= rules.made) {
            throw new IndexOutOfBoundsException("no such rule");
        }
    }

    private void requireAct(int act) throws IndexOutOfBoundsException {
        if (act < 0 || act >= tree.made) {
            throw new IndexOutOfBoundsException("no such act");
        }
    }

    private void requirePlace(int x, int y) throws IllegalArgumentException {
        if (!isInRange(x, X) || !isInRange(y, Y)) {
            throw new IllegalArgumentException("x or y is out of range");
        }
    }

    private void requireSize(int width, int height) throws IllegalArgumentException {
        if (!isInRange(width, X_SIZE) || !isInRange(height, Y_SIZE)) {
            throw new IllegalArgumentException("width or height is out of range");
        }
    }

    private void requireWhat(int what) throws IllegalArgumentException {
        if (what < 0 || what >= WHATS) {
            throw new IllegalArgumentException("what is out of range");
        }
    }

    private void requireOn(Board board, int shape) throws NoSuchElementException {
        if (!has(board.there, shape)) {
            throw new NoSuchElementException("the shape is not there");
        }
    }

    private void requireMade(int export) throws IndexOutOfBoundsException, NoSuchElementException {
        if (export < 0 || export >= exports.asked) {
            throw new IndexOutOfBoundsException("no such export");
        }
        if (export >= exports.made) {
            throw new NoSuchElementException("the export waits");
        }
    }

    /** Does the drafted act, and hangs it into the tree of its drawer. */
    private void doDraft(int drawer) throws IllegalStateException {
        if (tree.made >= ACTS || !kept.tryAct(tree.made)) {
            throw new IllegalStateException("that cannot be done, or there are 60 acts");
        }
        tree.hang(drawer);
    }

    private static boolean has(long set, int member) {
        return member >= 0 && member < 64 && (set >> member & 1L) != 0L;
    }

    private static boolean isInRange(int number, int what) {
        if (what < AXES) {
            return number >= LOWEST_PLACE && number <= HIGHEST_PLACE;
        }
        return number >= LOWEST_SIZE && number <= HIGHEST_SIZE;
    }

    /** Whether a kind of rule ties a number of one shape to the same number of the other one. */
    private static boolean isAbout(int kind, int what) {
        switch (what) {
            case X:
                return kind == TOUCH || kind == ALIGN || kind == TIE;
            case Y:
                return kind == OVER || kind == LEVEL || kind == TIE;
            case X_SIZE:
                return kind == WIDTH;
            case Y_SIZE:
                return kind == HEIGHT;
            default:
                return false;
        }
    }

    /** The element of a row, 0 behind its ends: so no index is used that was not looked at. */
    private static int read(int[] row, int index) {
        return index >= 0 && index < row.length ? row[index] : 0;
    }

    private static void put(int[] row, int index, int number) {
        if (index >= 0 && index < row.length) {
            row[index] = number;
        }
    }

    /** The shapes that were made, whether they are there or not, and the texts of the labels. */
    private static final class Shapes {
        private int made = 0;
        private int turned = 0;
        private final int[] letterCounts = new int[SHAPES];
        private final int[] letters = new int[SHAPES * TEXT_LETTERS];

        /** Writes down the next shape; it is not counted yet. A box has no letters. */
        private void draft(int[] row, int count, boolean isTurned) {
            put(letterCounts, made, count);
            for (int at = 0; at < count && at < TEXT_LETTERS; at++) {
                put(letters, made * TEXT_LETTERS + at, read(row, at));
            }
            turned = isTurned ? turned | 1 << made : turned & ~(1 << made);
        }

        private int lettersOf(int shape) {
            return read(letterCounts, shape);
        }

        private int shownLetter(int shape, int at) {
            int from = has(turned, shape) ? lettersOf(shape) - 1 - at : at;
            return read(letters, shape * TEXT_LETTERS + from);
        }
    }

    /** The rules that were laid, whether they are in force or not. */
    private static final class Rules {
        private int made = 0;
        private final int[] kinds = new int[RULES];
        private final int[] firsts = new int[RULES];
        private final int[] seconds = new int[RULES];

        /** Writes down the next rule; it is not counted yet. */
        private void draft(int kind, int first, int second) {
            put(kinds, made, kind);
            put(firsts, made, first);
            put(seconds, made, second);
        }
    }

    /** All acts, and the nodes of the drawers' trees that they are. */
    private static final class Tree {
        private int made = 0;
        private final int[] deeds = new int[ACTS];
        private final int[] subjects = new int[ACTS];
        private final int[] numbers = new int[ACTS * WHATS];
        private final int[] drawers = new int[ACTS];
        private final int[] aboves = new int[ACTS];
        private final int[] stands = new int[DRAWERS];

        private Tree() {
            for (int drawer = 0; drawer < stands.length; drawer++) {
                stands[drawer] = NONE;
            }
        }

        /** Writes down the next act; it is not counted yet. */
        private void draft(int deed, int subject, int x, int y, int width, int height) {
            put(deeds, made, deed);
            put(subjects, made, subject);
            put(numbers, made * WHATS + X, x);
            put(numbers, made * WHATS + Y, y);
            put(numbers, made * WHATS + X_SIZE, width);
            put(numbers, made * WHATS + Y_SIZE, height);
        }

        private void hang(int drawer) {
            put(drawers, made, drawer);
            put(aboves, made, standOf(drawer));
            put(stands, drawer, made);
            made++;
        }

        private void stand(int drawer, int act) {
            put(stands, drawer, act);
        }

        private int standOf(int drawer) {
            return drawer >= 0 && drawer < stands.length ? stands[drawer] : NONE;
        }

        private int aboveOf(int act) {
            return act >= 0 && act < aboves.length ? aboves[act] : NONE;
        }

        private int deedOf(int act) {
            return read(deeds, act);
        }

        private int subjectOf(int act) {
            return read(subjects, act);
        }

        private int wantedBy(int act, int what) {
            return read(numbers, act * WHATS + what);
        }

        private long counting() {
            long set = 0L;
            for (int drawer = 0; drawer < DRAWERS; drawer++) {
                int act = standOf(drawer);
                for (int step = 0; step < ACTS && act != NONE; step++) {
                    set |= 1L << act;
                    act = aboveOf(act);
                }
            }
            return set;
        }

        private boolean isBranch(int act, int drawer) {
            return read(drawers, act) == drawer && aboveOf(act) == standOf(drawer);
        }

        private int branchOf(int drawer, int branch) {
            int behind = branch;
            for (int act = 0; act < made; act++) {
                if (isBranch(act, drawer)) {
                    if (behind == 0) {
                        return act;
                    }
                    behind--;
                }
            }
            return NONE;
        }

        private int countBranches(int drawer) {
            int count = 0;
            for (int act = 0; act < made; act++) {
                if (isBranch(act, drawer)) {
                    count++;
                }
            }
            return count;
        }

        /** Acts come after those above them, so that one pass finds all. */
        private int countBelow(int drawer) {
            long found = 0L;
            for (int act = 0; act < made; act++) {
                if (isBranch(act, drawer) || has(found, aboveOf(act))) {
                    found |= 1L << act;
                }
            }
            return Long.bitCount(found);
        }
    }

    /** A board and a second one, on which an act is tried, so that one that fails leaves no trace. */
    private static final class Replay {
        private final Tree tree;
        private Board board;
        private Board trial;
        private long voids = 0L;

        private Replay(Shapes shapes, Rules rules, Tree tree, boolean isInRounds) {
            this.tree = tree;
            board = new Board(shapes, rules, isInRounds);
            trial = new Board(shapes, rules, isInRounds);
        }

        private void redo(long acts) {
            board.clear();
            voids = 0L;
            for (int act = 0; act < ACTS; act++) {
                if (has(acts, act) && !tryAct(act)) {
                    voids |= 1L << act;
                }
            }
        }

        /** Does an act if it can be done; the trial is the board before it then. */
        private boolean tryAct(int act) {
            int subject = tree.subjectOf(act);
            int x = tree.wantedBy(act, X);
            int y = tree.wantedBy(act, Y);
            int width = tree.wantedBy(act, X_SIZE);
            int height = tree.wantedBy(act, Y_SIZE);
            boolean isDone = false;
            trial.copyFrom(board);
            switch (tree.deedOf(act)) {
                case ADD:
                    isDone = trial.addShape(subject, x, y, width, height);
                    break;
                case SHIFT:
                    isDone = trial.moveTo(subject, x, y);
                    break;
                case SIZE:
                    isDone = trial.resizeTo(subject, width, height);
                    break;
                case LAY:
                    isDone = trial.layRule(subject);
                    break;
                case DROP:
                    isDone = trial.dropRule(subject);
                    break;
                default:
                    break;
            }
            if (isDone) {
                Board before = board;
                board = trial;
                trial = before;
            }
            return isDone;
        }

        private int changedShapes() {
            int count = 0;
            for (int shape = 0; shape < SHAPES; shape++) {
                if (has(board.there, shape) && board.differsAt(shape, trial)) {
                    count++;
                }
            }
            return count;
        }
    }

    /**
     * The shapes that are there and the rules in force. Shapes whose numbers rules tie together are a group:
     * a part is one for x or y, a class one for widths or heights. Sets of shapes and rules are bits.
     */
    private static final class Board {
        private final Shapes shapes;
        private final Rules rules;
        private final boolean isInRounds;
        private final int[] numbers = new int[SHAPES * WHATS];
        private final int[] tieGaps = new int[RULES * AXES];
        private int there = 0;
        private int inForce = 0;

        private Board(Shapes shapes, Rules rules, boolean isInRounds) {
            this.shapes = shapes;
            this.rules = rules;
            this.isInRounds = isInRounds;
        }

        private void clear() {
            there = 0;
            inForce = 0;
        }

        private void copyFrom(Board other) {
            System.arraycopy(other.numbers, 0, numbers, 0, SHAPES * WHATS);
            System.arraycopy(other.tieGaps, 0, tieGaps, 0, RULES * AXES);
            there = other.there;
            inForce = other.inForce;
        }

        private int numberOf(int shape, int what) {
            return read(numbers, shape * WHATS + what);
        }

        private void set(int shape, int what, int number) {
            put(numbers, shape * WHATS + what, number);
        }

        private boolean differsAt(int shape, Board other) {
            for (int what = 0; what < WHATS; what++) {
                if (numberOf(shape, what) != other.numberOf(shape, what)) {
                    return true;
                }
            }
            return false;
        }

        private boolean addShape(int shape, int x, int y, int width, int height) {
            set(shape, X, x);
            set(shape, Y, y);
            set(shape, X_SIZE, width);
            set(shape, Y_SIZE, height);
            there |= 1 << shape;
            return true;
        }

        private boolean moveTo(int shape, int x, int y) {
            return has(there, shape)
                    && shiftGroup(groupOf(shape, X), X, x - numberOf(shape, X))
                    && shiftGroup(groupOf(shape, Y), Y, y - numberOf(shape, Y));
        }

        private boolean resizeTo(int shape, int width, int height) {
            return has(there, shape)
                    && growClass(groupOf(shape, X_SIZE), X, width - numberOf(shape, X_SIZE), shape)
                    && growClass(groupOf(shape, Y_SIZE), Y, height - numberOf(shape, Y_SIZE), shape);
        }

        private boolean layRule(int rule) {
            int kind = read(rules.kinds, rule);
            int first = read(rules.firsts, rule);
            int second = read(rules.seconds, rule);
            boolean isDone = has(there, first) && has(there, second);
            for (int what = 0; what < WHATS && isDone; what++) {
                if (!isAbout(kind, what)) {
                    continue;
                }
                int apart = numberOf(second, what) - numberOf(first, what);
                if (kind == TIE) {
                    put(tieGaps, rule * AXES + what, apart);
                }
                int by = gapOf(rule, what) - apart;
                int group = groupOf(second, what);
                if (has(group, first)) {
                    isDone = by == 0;
                } else if (what < AXES) {
                    isDone = shiftGroup(group, what, by);
                } else {
                    isDone = growClass(group, what - AXES, by, first);
                }
            }
            inForce |= isDone ? 1 << rule : 0;
            return isDone;
        }

        private boolean dropRule(int rule) {
            boolean isDone = has(inForce, rule);
            inForce &= ~(1 << rule);
            return isDone;
        }

        private boolean isLink(int rule, int what) {
            return has(inForce, rule) && isAbout(read(rules.kinds, rule), what);
        }

        /** By how much the number of a rule's second shape is to be above that of the first one. */
        private int gapOf(int rule, int what) {
            switch (read(rules.kinds, rule)) {
                case TOUCH:
                case OVER:
                    return read(numbers, read(rules.firsts, rule) * WHATS + what + AXES);
                case TIE:
                    return read(tieGaps, rule * AXES + what);
                default:
                    return 0;
            }
        }

        private boolean fits(int rule) {
            int first = read(rules.firsts, rule);
            int second = read(rules.seconds, rule);
            for (int what = 0; what < WHATS; what++) {
                if (isAbout(read(rules.kinds, rule), what)
                        && numberOf(second, what) - numberOf(first, what) != gapOf(rule, what)) {
                    return false;
                }
            }
            return true;
        }

        private int groupOf(int shape, int what) {
            int group = 1 << shape;
            for (int round = 0; round < SHAPES; round++) {
                int before = group;
                for (int rule = 0; rule < RULES; rule++) {
                    int ends = 1 << read(rules.firsts, rule) | 1 << read(rules.seconds, rule);
                    if ((group & ends) != 0 && isLink(rule, what)) {
                        group |= ends;
                    }
                }
                if (group == before) {
                    break;
                }
            }
            return group;
        }

        private boolean shiftGroup(int group, int what, int by) {
            for (int shape = 0; shape < SHAPES; shape++) {
                if (!has(group, shape)) {
                    continue;
                }
                int number = numberOf(shape, what) + by;
                boolean isLabelsSize = what >= AXES && shapes.lettersOf(shape) > 0;
                if (!isInRange(number, what) || isLabelsSize && by != 0) {
                    return false;
                }
                set(shape, what, number);
            }
            return true;
        }

        /** Gives a class of shapes, all of one size for an axis, another size, and settles the places for it. */
        private boolean growClass(int shapesOfClass, int axis, int by, int lead) {
            if (!shiftGroup(shapesOfClass, axis + AXES, by)) {
                return false;
            }
            if (by == 0) {
                return true;
            }
            int fixed = 0;
            int left = shapesOfClass;
            for (int shape = 0; shape < SHAPES; shape++) {
                if (has(left, shape)) {
                    int part = groupOf(shape, axis);
                    int lowest = part & -part;
                    fixed |= has(part, lead) ? 1 << lead : lowest;
                    left &= ~part;
                }
            }
            boolean isTold = isInRounds ? tellInRounds(fixed, axis) : tellByWalk(fixed, axis);
            return isTold && areInRange(axis);
        }

        private boolean areInRange(int what) {
            for (int shape = 0; shape < SHAPES; shape++) {
                if (has(there, shape) && !isInRange(numberOf(shape, what), what)) {
                    return false;
                }
            }
            return true;
        }

        /** Goes from each shape whose place is known to those that rules join with it. */
        private boolean tellByWalk(int fixed, int axis) {
            int known = fixed;
            int waiting = fixed;
            for (int step = 0; step < SHAPES && waiting != 0; step++) {
                int from = Integer.numberOfTrailingZeros(waiting);
                waiting &= ~(1 << from);
                for (int rule = 0; rule < RULES; rule++) {
                    boolean isFirst = read(rules.firsts, rule) == from;
                    boolean isSecond = read(rules.seconds, rule) == from;
                    if (!isFirst && !isSecond || !isLink(rule, axis)) {
                        continue;
                    }
                    int to = isFirst ? read(rules.seconds, rule) : read(rules.firsts, rule);
                    int gap = gapOf(rule, axis);
                    int told = numberOf(from, axis) + (isFirst ? gap : -gap);
                    if (has(known, to) && numberOf(to, axis) != told) {
                        return false;
                    }
                    set(to, axis, told);
                    waiting |= has(known, to) ? 0 : 1 << to;
                    known |= 1 << to;
                }
            }
            return true;
        }

        /** Goes over all rules, round by round, until one tells no place any more. */
        private boolean tellInRounds(int fixed, int axis) {
            int known = fixed;
            for (int round = 0; round < SHAPES; round++) {
                int before = known;
                for (int rule = 0; rule < RULES; rule++) {
                    int first = read(rules.firsts, rule);
                    int second = read(rules.seconds, rule);
                    if (!isLink(rule, axis) || !has(known, first) && !has(known, second)) {
                        continue;
                    }
                    int gap = gapOf(rule, axis);
                    if (!has(known, second)) {
                        set(second, axis, numberOf(first, axis) + gap);
                    } else if (!has(known, first)) {
                        set(first, axis, numberOf(second, axis) - gap);
                    } else if (numberOf(second, axis) - numberOf(first, axis) != gap) {
                        return false;
                    }
                    known |= 1 << first | 1 << second;
                }
                if (known == before) {
                    break;
                }
            }
            return true;
        }
    }

    /** The text of an export while it is written. */
    private static final class ExportText {
        private final char[] signs = new char[LONGEST_EXPORT];
        private int chars = 0;

        private char signOf(int at) {
            return at >= 0 && at < signs.length ? signs[at] : 0;
        }

        private void show(Board board, Shapes shapes) {
            chars = 0;
            for (int shape = 0; shape < SHAPES; shape++) {
                if (has(board.there, shape)) {
                    showShape(board, shapes, shape);
                }
            }
            for (int rule = 0; rule < RULES; rule++) {
                if (has(board.inForce, rule)) {
                    write('r');
                    writeNumber(rule);
                    write(';');
                }
            }
        }

        private void showShape(Board board, Shapes shapes, int shape) {
            int letters = shapes.lettersOf(shape);
            write(letters > 0 ? 't' : 'b');
            writeNumber(shape);
            for (int what = 0; what < WHATS; what++) {
                write(what == 0 ? ':' : ',');
                writeNumber(board.numberOf(shape, what));
            }
            if (letters > 0) {
                write(',');
            }
            for (int at = 0; at < letters && at < TEXT_LETTERS; at++) {
                writeLetter(shapes.shownLetter(shape, at));
            }
            write(';');
        }

        private void writeLetter(int letter) {
            if (letter == PAIR_LETTER) {
                write((char) 0xD83D);
                write((char) 0xDCD0);
            } else {
                write((char) ('a' + letter));
            }
        }

        /** No number that is shown has more than three digits. */
        private void writeNumber(int number) {
            if (number < 0) {
                write('-');
            }
            int size = Math.abs(number);
            if (size >= 100) {
                write((char) ('0' + size / 100 % 10));
            }
            if (size >= 10) {
                write((char) ('0' + size / 10 % 10));
            }
            write((char) ('0' + size % 10));
        }

        private void write(char sign) {
            if (chars >= 0 && chars < signs.length) {
                signs[chars] = sign;
                chars++;
            }
        }
    }

    /**
     * The exports that were asked for; those before the first that waits are made. The text is written at
     * asking already, since the board goes on changing; to make it is to show it.
     */
    private static final class Exports {
        private int asked = 0;
        private int made = 0;
        private final long[] counted = new long[EXPORTS];
        private final int[] chars = new int[EXPORTS];
        private final char[] signs = new char[EXPORTS * LONGEST_EXPORT];

        private void keep(ExportText text, long acts) {
            if (asked < 0 || asked >= EXPORTS) {
                return;
            }
            counted[asked] = acts;
            chars[asked] = text.chars;
            for (int at = 0; at < LONGEST_EXPORT; at++) {
                signs[asked * LONGEST_EXPORT + at] = text.signOf(at);
            }
            asked++;
        }

        private int charsOf(int export) {
            return read(chars, export);
        }

        private long actsOf(int export) {
            return export >= 0 && export < counted.length ? counted[export] : 0L;
        }

        private char signOf(int export, int at) {
            int index = export * LONGEST_EXPORT + at;
            return index >= 0 && index < signs.length ? signs[index] : 0;
        }
    }
}
