import java.util.ArrayList;
import java.util.List;
import java.util.NoSuchElementException;
import java.util.TreeMap;
import java.util.TreeSet;

/** The document once more, in the plainest way: every answer is found from the acts, on a board made anew. */
final class Model {
    /** Thrown when an act cannot be done. */
    private static final class Cannot extends Exception {
        private static final long serialVersionUID = 1L;
    }

    private static final class Shape {
        int number, x, y, width, height;
        String text;

        Shape copy() {
            Shape copy = new Shape();
            copy.number = number;
            copy.x = x;
            copy.y = y;
            copy.width = width;
            copy.height = height;
            copy.text = text;
            return copy;
        }

        boolean isLike(Shape other) {
            return x == other.x && y == other.y && width == other.width && height == other.height;
        }
    }

    private static final class Rule {
        int number, kind, a, b, tieX, tieY;

        boolean joinsX() {
            return kind == Sketchlock.TOUCH || kind == Sketchlock.ALIGN || kind == Sketchlock.TIE;
        }

        boolean joinsY() {
            return kind == Sketchlock.OVER || kind == Sketchlock.LEVEL || kind == Sketchlock.TIE;
        }
    }

    private static final class Board {
        final TreeMap<Integer, Shape> shapes = new TreeMap<>();
        final TreeMap<Integer, Rule> rules = new TreeMap<>();

        Board copy() {
            Board copy = new Board();
            for (Shape shape : shapes.values()) {
                copy.shapes.put(shape.number, shape.copy());
            }
            copy.rules.putAll(rules);
            return copy;
        }

        Shape get(int number) throws Cannot {
            Shape shape = shapes.get(number);
            if (shape == null) {
                throw new Cannot();
            }
            return shape;
        }

        boolean fits(Rule rule) {
            Shape a = shapes.get(rule.a);
            Shape b = shapes.get(rule.b);
            switch (rule.kind) {
                case Sketchlock.WIDTH:
                    return a.width == b.width;
                case Sketchlock.HEIGHT:
                    return a.height == b.height;
                case Sketchlock.TOUCH:
                    return b.x == a.x + a.width;
                case Sketchlock.ALIGN:
                    return a.x == b.x;
                case Sketchlock.OVER:
                    return b.y == a.y + a.height;
                case Sketchlock.LEVEL:
                    return a.y == b.y;
                default:
                    return b.x - a.x == rule.tieX && b.y - a.y == rule.tieY;
            }
        }

        /** link: x for parts for x, y for those for y, w and h for classes. */
        TreeSet<Integer> group(int shape, char link) {
            TreeSet<Integer> found = new TreeSet<>();
            List<Integer> open = new ArrayList<>();
            open.add(shape);
            while (!open.isEmpty()) {
                int from = open.remove(open.size() - 1);
                if (!found.add(from)) {
                    continue;
                }
                for (Rule rule : rules.values()) {
                    boolean isLink = link == 'x' && rule.joinsX() || link == 'y' && rule.joinsY()
                            || link == 'w' && rule.kind == Sketchlock.WIDTH
                            || link == 'h' && rule.kind == Sketchlock.HEIGHT;
                    if (isLink && rule.a == from) {
                        open.add(rule.b);
                    }
                    if (isLink && rule.b == from) {
                        open.add(rule.a);
                    }
                }
            }
            return found;
        }

        void checkAll() throws Cannot {
            for (Shape shape : shapes.values()) {
                if (Math.abs(shape.x) > 999 || Math.abs(shape.y) > 999) {
                    throw new Cannot();
                }
            }
            for (Rule rule : rules.values()) {
                if (!fits(rule)) {
                    throw new Cannot();
                }
            }
        }
    }

    private static final class Act {
        int number, drawer, deed, x, y, width, height;
        Shape shape;
        Rule rule;
        int subject;
        Act above;
        final List<Act> below = new ArrayList<>();

        int size() {
            int size = 0;
            for (Act act : below) {
                size += 1 + act.size();
            }
            return size;
        }
    }

    private static final class Export {
        boolean isMade;
        String text;
    }

    private final List<Integer> spelled = new ArrayList<>();
    private final List<Act> acts = new ArrayList<>();
    private final Act[] roots = {new Act(), new Act(), new Act(), new Act()};
    private final Act[] stands = roots.clone();
    private final List<Shape> shapes = new ArrayList<>();
    private final List<Rule> rules = new ArrayList<>();
    private final List<Export> exports = new ArrayList<>();

    // ---- how acts are done

    private static void doAct(Board board, Act act) throws Cannot {
        switch (act.deed) {
            case 'a':
                board.shapes.put(act.shape.number, act.shape.copy());
                return;
            case 'm':
                moveTo(board, board.get(act.subject), act.x, act.y);
                return;
            case 's':
                resizeTo(board, board.get(act.subject), act.width, act.height);
                return;
            case 'l':
                layRule(board, act.rule);
                return;
            default:
                if (board.rules.remove(act.subject) == null) {
                    throw new Cannot();
                }
        }
    }

    private static void moveTo(Board board, Shape shape, int x, int y) throws Cannot {
        int byX = x - shape.x;
        int byY = y - shape.y;
        for (int other : board.group(shape.number, 'x')) {
            board.get(other).x += byX;
        }
        for (int other : board.group(shape.number, 'y')) {
            board.get(other).y += byY;
        }
        board.checkAll();
    }

    private static void giveSize(Shape shape, int width, int height) throws Cannot {
        if (shape.text != null && (shape.width != width || shape.height != height)) {
            throw new Cannot();
        }
        shape.width = width;
        shape.height = height;
    }

    private static void resizeTo(Board board, Shape shape, int width, int height) throws Cannot {
        Board before = board.copy();
        for (int other : board.group(shape.number, 'w')) {
            giveSize(board.get(other), width, board.get(other).height);
        }
        for (int other : board.group(shape.number, 'h')) {
            giveSize(board.get(other), board.get(other).width, height);
        }
        settle(board, before, shape.number);
    }

    private static void layRule(Board board, Rule laid) throws Cannot {
        Shape a = board.get(laid.a);
        Shape b = board.get(laid.b);
        Board before = board.copy();
        if (laid.kind == Sketchlock.WIDTH) {
            for (int other : board.group(b.number, 'w')) {
                giveSize(board.get(other), a.width, board.get(other).height);
            }
            settle(board, before, a.number);
        } else if (laid.kind == Sketchlock.HEIGHT) {
            for (int other : board.group(b.number, 'h')) {
                giveSize(board.get(other), board.get(other).width, a.height);
            }
            settle(board, before, a.number);
        } else if (laid.kind == Sketchlock.TIE) {
            laid.tieX = b.x - a.x;
            laid.tieY = b.y - a.y;
        } else if (laid.joinsX()) {
            int by = a.x + (laid.kind == Sketchlock.TOUCH ? a.width : 0) - b.x;
            if (!board.group(a.number, 'x').contains(b.number)) {
                for (int other : board.group(b.number, 'x')) {
                    board.get(other).x += by;
                }
            }
        } else {
            int by = a.y + (laid.kind == Sketchlock.OVER ? a.height : 0) - b.y;
            if (!board.group(a.number, 'y').contains(b.number)) {
                for (int other : board.group(b.number, 'y')) {
                    board.get(other).y += by;
                }
            }
        }
        board.rules.put(laid.number, laid);
        board.checkAll();
    }

    private static void settle(Board board, Board before, int lead) throws Cannot {
        for (Shape shape : board.shapes.values()) {
            TreeSet<Integer> partX = board.group(shape.number, 'x');
            if (partX.first() == shape.number) {
                boolean isChanged = false;
                for (int member : partX) {
                    isChanged |= board.get(member).width != before.get(member).width;
                }
                if (isChanged) {
                    tellX(board, partX.contains(lead) ? lead : shape.number, new TreeSet<>());
                }
            }
            TreeSet<Integer> partY = board.group(shape.number, 'y');
            if (partY.first() == shape.number) {
                boolean isChanged = false;
                for (int member : partY) {
                    isChanged |= board.get(member).height != before.get(member).height;
                }
                if (isChanged) {
                    tellY(board, partY.contains(lead) ? lead : shape.number, new TreeSet<>());
                }
            }
        }
        board.checkAll();
    }

    private static void tellX(Board board, int from, TreeSet<Integer> told) throws Cannot {
        told.add(from);
        for (Rule rule : board.rules.values()) {
            if (!rule.joinsX()) {
                continue;
            }
            Shape a = board.get(rule.a);
            Shape b = board.get(rule.b);
            int gap = rule.kind == Sketchlock.TOUCH ? a.width : rule.kind == Sketchlock.ALIGN ? 0 : rule.tieX;
            if (rule.a == from && !told.contains(rule.b)) {
                b.x = a.x + gap;
                tellX(board, rule.b, told);
            } else if (rule.b == from && !told.contains(rule.a)) {
                a.x = b.x - gap;
                tellX(board, rule.a, told);
            }
        }
    }

    private static void tellY(Board board, int from, TreeSet<Integer> told) throws Cannot {
        told.add(from);
        for (Rule rule : board.rules.values()) {
            if (!rule.joinsY()) {
                continue;
            }
            Shape a = board.get(rule.a);
            Shape b = board.get(rule.b);
            int gap = rule.kind == Sketchlock.OVER ? a.height : rule.kind == Sketchlock.LEVEL ? 0 : rule.tieY;
            if (rule.a == from && !told.contains(rule.b)) {
                b.y = a.y + gap;
                tellY(board, rule.b, told);
            } else if (rule.b == from && !told.contains(rule.a)) {
                a.y = b.y - gap;
                tellY(board, rule.a, told);
            }
        }
    }

    // ---- what the acts make

    private TreeSet<Integer> counting() {
        TreeSet<Integer> counting = new TreeSet<>();
        for (int drawer = 0; drawer < 4; drawer++) {
            for (Act act = stands[drawer]; act != roots[drawer]; act = act.above) {
                counting.add(act.number);
            }
        }
        return counting;
    }

    private Board made(TreeSet<Integer> voids) {
        Board board = new Board();
        for (int number : counting()) {
            Board next = board.copy();
            try {
                doAct(next, acts.get(number));
                board = next;
            } catch (Cannot cannot) {
                voids.add(number);
            }
        }
        return board;
    }

    private Board made() {
        return made(new TreeSet<>());
    }

    private TreeSet<Integer> voids() {
        TreeSet<Integer> voids = new TreeSet<>();
        made(voids);
        return voids;
    }

    /** Does a new act; answers how many shapes are otherwise by it. */
    private int hang(int drawer, Act act) {
        Board before = made();
        Board after = before.copy();
        boolean isDone = acts.size() < 60;
        try {
            doAct(after, act);
        } catch (Cannot cannot) {
            isDone = false;
        }
        if (!isDone) {
            throw new IllegalStateException();
        }
        act.drawer = drawer;
        act.number = acts.size();
        act.above = stands[drawer];
        act.above.below.add(act);
        stands[drawer] = act;
        acts.add(act);
        int changed = 0;
        for (Shape shape : before.shapes.values()) {
            if (!shape.isLike(after.shapes.get(shape.number))) {
                changed++;
            }
        }
        return changed;
    }

    private static void index(int number, int size) {
        if (number < 0 || number >= size) {
            throw new IndexOutOfBoundsException();
        }
    }

    private static void range(int number, int lowest, int highest) {
        if (number < lowest || number > highest) {
            throw new IllegalArgumentException();
        }
    }

    // ---- the face

    int spell(int letter) {
        index(letter, 27);
        if (spelled.size() == 5) {
            throw new IllegalStateException();
        }
        spelled.add(letter);
        return textOf(false).length();
    }

    private String textOf(boolean isTurned) {
        StringBuilder text = new StringBuilder();
        for (int at = 0; at < spelled.size(); at++) {
            int letter = spelled.get(isTurned ? spelled.size() - 1 - at : at);
            text.appendCodePoint(letter == 26 ? 0x1F4D0 : 'a' + letter);
        }
        return text.toString();
    }

    int clearSpelled() {
        int size = spelled.size();
        spelled.clear();
        return size;
    }

    int addBox(int drawer, int x, int y, int width, int height) {
        index(drawer, 4);
        range(x, -999, 999);
        range(y, -999, 999);
        range(width, 1, 99);
        range(height, 1, 99);
        return add(drawer, x, y, width, height, null);
    }

    int addLabel(int drawer, int x, int y, boolean isTurned) {
        index(drawer, 4);
        range(x, -999, 999);
        range(y, -999, 999);
        if (spelled.isEmpty()) {
            throw new IllegalStateException();
        }
        return add(drawer, x, y, 2 * spelled.size(), 2, textOf(isTurned));
    }

    private int add(int drawer, int x, int y, int width, int height, String text) {
        if (shapes.size() == 10) {
            throw new IllegalStateException();
        }
        Act act = new Act();
        act.deed = 'a';
        act.shape = new Shape();
        act.shape.number = shapes.size();
        act.shape.x = x;
        act.shape.y = y;
        act.shape.width = width;
        act.shape.height = height;
        act.shape.text = text;
        hang(drawer, act);
        shapes.add(act.shape);
        return act.shape.number;
    }

    int move(int drawer, int shape, int x, int y) {
        index(drawer, 4);
        index(shape, shapes.size());
        range(x, -999, 999);
        range(y, -999, 999);
        Act act = new Act();
        act.deed = 'm';
        act.subject = shape;
        act.x = x;
        act.y = y;
        return hang(drawer, act);
    }

    int resize(int drawer, int shape, int width, int height) {
        index(drawer, 4);
        index(shape, shapes.size());
        range(width, 1, 99);
        range(height, 1, 99);
        Act act = new Act();
        act.deed = 's';
        act.subject = shape;
        act.width = width;
        act.height = height;
        return hang(drawer, act);
    }

    int lay(int drawer, int kind, int shape, int other) {
        index(drawer, 4);
        index(shape, shapes.size());
        index(other, shapes.size());
        range(kind, 0, 6);
        if (shape == other) {
            throw new IllegalArgumentException();
        }
        if (rules.size() == 12) {
            throw new IllegalStateException();
        }
        Act act = new Act();
        act.deed = 'l';
        act.rule = new Rule();
        act.rule.number = rules.size();
        act.rule.kind = kind;
        act.rule.a = shape;
        act.rule.b = other;
        hang(drawer, act);
        rules.add(act.rule);
        return act.rule.number;
    }

    int drop(int drawer, int rule) {
        index(drawer, 4);
        index(rule, rules.size());
        Act act = new Act();
        act.deed = 'd';
        act.subject = rule;
        hang(drawer, act);
        return made().rules.size();
    }

    int back(int drawer) {
        index(drawer, 4);
        if (stands[drawer] == roots[drawer]) {
            throw new IllegalStateException();
        }
        stands[drawer] = stands[drawer].above;
        return voids().size();
    }

    int on(int drawer, int branch) {
        index(drawer, 4);
        index(branch, stands[drawer].below.size());
        stands[drawer] = stands[drawer].below.get(branch);
        return voids().size();
    }

    int branches(int drawer) {
        index(drawer, 4);
        return stands[drawer].below.size();
    }

    int below(int drawer) {
        index(drawer, 4);
        return stands[drawer].size();
    }

    int standsAt(int drawer) {
        index(drawer, 4);
        return stands[drawer] == roots[drawer] ? -1 : stands[drawer].number;
    }

    int acts() {
        return acts.size();
    }

    boolean counts(int act) {
        index(act, acts.size());
        return counting().contains(act);
    }

    boolean isVoid(int act) {
        index(act, acts.size());
        return voids().contains(act);
    }

    boolean isThere(int shape) {
        index(shape, shapes.size());
        return made().shapes.containsKey(shape);
    }

    int number(int shape, int what) {
        index(shape, shapes.size());
        range(what, 0, 3);
        Shape found = there(made(), shape);
        return what == 0 ? found.x : what == 1 ? found.y : what == 2 ? found.width : found.height;
    }

    private static Shape there(Board board, int shape) {
        if (!board.shapes.containsKey(shape)) {
            throw new NoSuchElementException();
        }
        return board.shapes.get(shape);
    }

    boolean isInForce(int rule) {
        index(rule, rules.size());
        return made().rules.containsKey(rule);
    }

    boolean holds(int rule) {
        index(rule, rules.size());
        Board board = made();
        there(board, rules.get(rule).a);
        there(board, rules.get(rule).b);
        if (rules.get(rule).kind == Sketchlock.TIE && !board.rules.containsKey(rule)) {
            throw new NoSuchElementException();
        }
        return board.fits(rules.get(rule));
    }

    int broken() {
        int broken = 0;
        for (int act : voids()) {
            broken += acts.get(act).deed == 'l' ? 1 : 0;
        }
        return broken;
    }

    int part(int shape, boolean isForX) {
        index(shape, shapes.size());
        Board board = made();
        there(board, shape);
        return board.group(shape, isForX ? 'x' : 'y').size();
    }

    int ask() {
        if (exports.size() == 10) {
            throw new IllegalStateException();
        }
        Board board = made();
        StringBuilder text = new StringBuilder();
        for (Shape shape : board.shapes.values()) {
            text.append(shape.text == null ? "b" : "t").append(shape.number).append(":");
            text.append(shape.x).append(",").append(shape.y).append(",");
            text.append(shape.width).append(",").append(shape.height);
            text.append(shape.text == null ? "" : "," + shape.text).append(";");
        }
        for (int rule : board.rules.keySet()) {
            text.append("r").append(rule).append(";");
        }
        Export export = new Export();
        export.text = text.toString();
        exports.add(export);
        return exports.size() - 1;
    }

    int make() {
        for (int export = 0; export < exports.size(); export++) {
            if (!exports.get(export).isMade) {
                exports.get(export).isMade = true;
                return export;
            }
        }
        return -1;
    }

    int length(int export) {
        index(export, exports.size());
        if (!exports.get(export).isMade) {
            throw new NoSuchElementException();
        }
        return exports.get(export).text.length();
    }

    char charAt(int export, int at) {
        if (at < 0 | at >= length(export)) {
            throw new NoSuchElementException();
        }
        return exports.get(export).text.charAt(at);
    }
}
