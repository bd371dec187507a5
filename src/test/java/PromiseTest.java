/** The promises of the document one by one: ordinary inputs, edges and wrong inputs. */
final class PromiseTest {
    private static final String OUT = Checks.OUT, BAD = Checks.BAD, STATE = Checks.STATE, NO_SUCH = Checks.NO_SUCH;
    private static final int WIDTH = Sketchlock.WIDTH, HEIGHT = Sketchlock.HEIGHT, TOUCH = Sketchlock.TOUCH;
    private static final int ALIGN = Sketchlock.ALIGN, OVER = Sketchlock.OVER, LEVEL = Sketchlock.LEVEL;
    private static final int TIE = Sketchlock.TIE;
    private static final int MIN = Integer.MIN_VALUE, MAX = Integer.MAX_VALUE;

    private final Checks checks = new Checks();
    private Sketchlock board = new Sketchlock();
    private String promise = "";

    public static void main(String[] args) {
        PromiseTest test = new PromiseTest();
        test.newObject();
        test.spelledText();
        test.boxes();
        test.labels();
        test.moves();
        test.sizes();
        test.places();
        test.rings();
        test.ends();
        test.rules();
        test.rulesInOnePart();
        test.classes();
        test.ties();
        test.drops();
        test.goingBackAndOn();
        test.voidActs();
        test.numbers();
        test.askedOfRules();
        test.parts();
        test.exports();
        test.exportTexts();
        test.limits();
        test.longestBranch();
        test.failedCallsLeaveNoTrace();
        test.checks.end("PromiseTest");
    }

    private void fresh(String name) {
        promise = name;
        board = new Sketchlock();
    }

    private void due(Object due, String call, Checks.Call run) {
        checks.due(promise + ": " + call, due, run);
    }

    // ---- calls with their checks

    private void box(int due, int drawer, int x, int y, int width, int height) {
        due(due, "addBox", () -> board.addBox(drawer, x, y, width, height));
    }

    private void lay(Object due, int drawer, int kind, int shape, int other) {
        due(due, "lay " + kind + " " + shape + " " + other, () -> board.lay(drawer, kind, shape, other));
    }

    private void move(Object due, int drawer, int shape, int x, int y) {
        due(due, "move " + shape + " to " + x + " " + y, () -> board.move(drawer, shape, x, y));
    }

    private void resize(Object due, int drawer, int shape, int width, int height) {
        due(due, "resize " + shape + " to " + width + " " + height, () -> board.resize(drawer, shape, width, height));
    }

    private void drop(Object due, int drawer, int rule) {
        due(due, "drop " + rule, () -> board.drop(drawer, rule));
    }

    private void back(Object due, int drawer) {
        due(due, "back " + drawer, () -> board.back(drawer));
    }

    private void on(Object due, int drawer, int branch) {
        due(due, "on " + drawer + " " + branch, () -> board.on(drawer, branch));
    }

    /** The four numbers of a shape, kept and anew. */
    private void at(int shape, int x, int y, int width, int height) {
        int[] want = {x, y, width, height};
        for (int what = 0; what < 4; what++) {
            int asked = what;
            due(want[what], "number " + shape + " " + what, () -> board.number(shape, asked));
            due(want[what], "numberAnew " + shape + " " + what, () -> board.numberAnew(shape, asked));
        }
    }

    /** The whole text of an export, by charAt and by charAnew. */
    private void exported(int export, String text) {
        due(text.length(), "length " + export, () -> board.length(export));
        for (int at = 0; at < text.length(); at++) {
            int asked = at;
            due((int) text.charAt(at), "charAt " + export + " " + at, () -> board.charAt(export, asked));
            due((int) text.charAt(at), "charAnew " + export + " " + at, () -> board.charAnew(export, asked));
        }
        due(NO_SUCH, "charAt behind the end", () -> board.charAt(export, text.length()));
        due(NO_SUCH, "charAnew behind the end", () -> board.charAnew(export, text.length()));
    }

    private void askAndMake(int export, String text) {
        due(export, "ask", () -> board.ask());
        due(export, "make", () -> board.make());
        exported(export, text);
    }

    // ---- the promises

    private void newObject() {
        fresh("1 a new object");
        due(0, "acts", () -> board.acts());
        due(0, "broken", () -> board.broken());
        due(-1, "make", () -> board.make());
        due(0, "clearSpelled", () -> board.clearSpelled());
        due(OUT, "isThere", () -> board.isThere(0));
        due(OUT, "isInForce", () -> board.isInForce(0));
        due(OUT, "holds", () -> board.holds(0));
        due(OUT, "counts", () -> board.counts(0));
        due(OUT, "length", () -> board.length(0));
        for (int drawer = 0; drawer < 4; drawer++) {
            int asked = drawer;
            due(-1, "standsAt", () -> board.standsAt(asked));
            due(0, "branches", () -> board.branches(asked));
            due(0, "below", () -> board.below(asked));
            due(STATE, "back", () -> board.back(asked));
        }
        askAndMake(0, "");
    }

    private void spelledText() {
        fresh("2 spell");
        due(OUT, "spell -1", () -> board.spell(-1));
        due(OUT, "spell 27", () -> board.spell(27));
        due(OUT, "spell MIN", () -> board.spell(MIN));
        due(2, "spell 26", () -> board.spell(26));
        due(3, "spell 0", () -> board.spell(0));
        due(5, "spell 26", () -> board.spell(26));
        due(6, "spell 25", () -> board.spell(25));
        due(8, "spell 26", () -> board.spell(26));
        due(STATE, "spell a sixth", () -> board.spell(0));
        due(OUT, "spell no letter as a sixth", () -> board.spell(27));
        fresh("3 clearSpelled");
        due(2, "spell 26", () -> board.spell(26));
        due(3, "spell 1", () -> board.spell(1));
        due(2, "clearSpelled", () -> board.clearSpelled());
        due(0, "clearSpelled again", () -> board.clearSpelled());
        due(1, "spell 2", () -> board.spell(2));
        due(0, "addLabel", () -> board.addLabel(0, 0, 0, false));
        due(2, "the text stays when it is used", () -> board.spell(3));
        askAndMake(0, "t0:0,0,2,2,c;");
    }

    private void boxes() {
        fresh("4 addBox");
        due(OUT, "drawer -1", () -> board.addBox(-1, 1000, 0, 1, 1));
        due(OUT, "drawer 4", () -> board.addBox(4, 0, 0, 0, 1));
        int[][] bad = {{-1000, 0, 1, 1}, {1000, 0, 1, 1}, {0, -1000, 1, 1}, {0, 1000, 1, 1}, {0, 0, 0, 1},
            {0, 0, 100, 1}, {0, 0, 1, 0}, {0, 0, 1, 100}, {MIN, 0, 1, 1}, {0, MAX, 1, 1}, {0, 0, MAX, 1}, {0, 0, 1, MIN}};
        for (int[] row : bad) {
            due(BAD, "out of range", () -> board.addBox(0, row[0], row[1], row[2], row[3]));
        }
        due(0, "acts", () -> board.acts());
        box(0, 3, -999, 999, 1, 99);
        box(1, 0, 999, -999, 99, 1);
        at(0, -999, 999, 1, 99);
        at(1, 999, -999, 99, 1);
        due(1, "isThere", () -> board.isThere(1));
        due(2, "acts", () -> board.acts());
        due(0, "standsAt 3", () -> board.standsAt(3));
        due(1, "standsAt 0", () -> board.standsAt(0));
        for (int shape = 2; shape < 10; shape++) {
            box(shape, 1, shape, shape, 5, 5);
        }
        due(STATE, "an eleventh", () -> board.addBox(1, 0, 0, 1, 1));
        due(BAD, "an eleventh, out of range", () -> board.addBox(1, 0, 0, 0, 1));
        back(0, 1);
        due(STATE, "those not there count too", () -> board.addBox(1, 0, 0, 1, 1));
        due(0, "isThere 9", () -> board.isThere(9));
    }

    private void labels() {
        fresh("5 addLabel");
        due(STATE, "empty text", () -> board.addLabel(0, 0, 0, false));
        due(BAD, "x, empty text", () -> board.addLabel(0, 1000, 0, false));
        due(OUT, "drawer", () -> board.addLabel(4, 1000, 0, false));
        board.spell(0);
        board.spell(26);
        due(OUT, "drawer", () -> board.addLabel(-1, 0, 0, false));
        due(BAD, "x", () -> board.addLabel(0, -1000, 0, false));
        due(BAD, "y", () -> board.addLabel(0, 0, 1000, false));
        due(BAD, "y", () -> board.addLabel(0, 0, -1000, false));
        due(0, "addLabel", () -> board.addLabel(0, -999, 999, true));
        at(0, -999, 999, 4, 2);
        board.spell(1);
        board.spell(2);
        board.spell(3);
        due(1, "addLabel", () -> board.addLabel(1, 999, -999, false));
        at(1, 999, -999, 10, 2);
        due(5, "clearSpelled", () -> board.clearSpelled());
        due(STATE, "empty again", () -> board.addLabel(0, 0, 0, false));
        askAndMake(0, "t0:-999,999,4,2,\uD83D\uDCD0a;t1:999,-999,10,2,a\uD83D\uDCD0bcd;");
        board.spell(4);
        for (int shape = 2; shape < 10; shape++) {
            int want = shape;
            due(want, "addLabel", () -> board.addLabel(2, 0, 0, false));
        }
        due(STATE, "an eleventh", () -> board.addLabel(2, 0, 0, false));
    }

    private void moves() {
        fresh("6 move");
        box(0, 0, 0, 0, 5, 5);
        due(OUT, "drawer", () -> board.move(4, 0, 1000, 0));
        due(OUT, "shape", () -> board.move(0, 1, 1000, 0));
        due(OUT, "shape", () -> board.move(0, -1, 0, 0));
        move(BAD, 0, 0, 1000, 0);
        move(BAD, 0, 0, 0, -1000);
        move(BAD, 0, 0, MIN, MAX);
        move(0, 1, 0, 0, 0);
        due(2, "a move to the same place is an act", () -> board.acts());
        move(1, 1, 0, 999, -999);
        at(0, 999, -999, 5, 5);
        move(1, 1, 0, 0, 0);
        box(1, 0, 50, 60, 3, 3);
        lay(0, 2, TOUCH, 0, 1);
        at(1, 5, 60, 3, 3);
        move(1, 3, 0, 0, 7);
        at(1, 5, 60, 3, 3);
        move(2, 3, 0, 994, 7);
        at(1, 999, 60, 3, 3);
        move(STATE, 3, 0, 995, 7);
        move(STATE, 3, 1, -995, 0);
        at(0, 994, 7, 5, 5);
        lay(1, 2, LEVEL, 0, 1);
        move(2, 3, 1, -994, -8);
        at(0, -999, -8, 5, 5);
        at(1, -994, -8, 3, 3);
        back(3, 0);
        due(0, "isThere", () -> board.isThere(1));
        move(STATE, 3, 1, 0, 0);
        move(1, 3, 0, 0, 0);
    }

    private void sizes() {
        fresh("7 resize");
        box(0, 0, 0, 0, 5, 5);
        due(OUT, "drawer", () -> board.resize(-1, 0, 0, 1));
        due(OUT, "shape", () -> board.resize(0, 1, 0, 1));
        resize(BAD, 0, 0, 0, 1);
        resize(BAD, 0, 0, 1, 100);
        resize(BAD, 0, 0, MIN, 1);
        resize(0, 0, 0, 5, 5);
        resize(1, 0, 0, 99, 1);
        at(0, 0, 0, 99, 1);
        board.spell(0);
        due(1, "addLabel", () -> board.addLabel(0, 10, 20, false));
        resize(0, 1, 1, 2, 2);
        resize(STATE, 1, 1, 3, 2);
        resize(STATE, 1, 1, 2, 1);
        box(2, 0, 7, 7, 9, 9);
        lay(0, 0, WIDTH, 1, 2);
        at(2, 7, 7, 2, 9);
        resize(STATE, 1, 2, 3, 9);
        resize(1, 1, 2, 2, 8);
        lay(1, 0, HEIGHT, 2, 0);
        resize(2, 1, 0, 99, 3);
        at(2, 7, 7, 2, 3);
        lay(2, 0, OVER, 2, 1);
        at(1, 10, 10, 2, 2);
        resize(2, 3, 0, 98, 4);
        at(0, 0, 0, 98, 4);
        at(1, 10, 10, 2, 2);
        at(2, 7, 6, 2, 4);
        resize(3, 3, 2, 2, 5);
        at(0, 0, 0, 98, 5);
        at(1, 10, 11, 2, 2);
        at(2, 7, 6, 2, 5);
    }

    /** How places are settled: who stays, who follows, and what cannot be done. */
    private void places() {
        fresh("7 places: the lead stays");
        box(0, 0, 0, 0, 5, 5);
        box(1, 0, 0, 0, 6, 5);
        box(2, 0, 0, 0, 7, 5);
        lay(0, 0, TOUCH, 0, 1);
        lay(1, 0, TOUCH, 1, 2);
        resize(2, 0, 1, 10, 5);
        at(0, 0, 0, 5, 5);
        at(1, 5, 0, 10, 5);
        at(2, 15, 0, 7, 5);
        lay(2, 0, WIDTH, 2, 0);
        at(0, -2, 0, 7, 5);
        at(1, 5, 0, 10, 5);
        at(2, 15, 0, 7, 5);
        resize(3, 0, 0, 8, 5);
        at(0, -2, 0, 8, 5);
        at(1, 6, 0, 10, 5);
        at(2, 16, 0, 8, 5);

        fresh("7 places: the lowest number stays where the lead is not");
        for (int shape = 0; shape < 6; shape++) {
            box(shape, 0, shape * 20, shape * 30, 5, 5);
        }
        lay(0, 0, TOUCH, 3, 2);
        lay(1, 0, OVER, 4, 3);
        lay(2, 0, WIDTH, 5, 3);
        lay(3, 0, HEIGHT, 5, 4);
        at(2, 65, 60, 5, 5);
        at(3, 60, 125, 5, 5);
        resize(3, 0, 5, 9, 8);
        at(2, 65, 60, 5, 5);
        at(3, 56, 125, 9, 5);
        at(4, 80, 117, 5, 8);
        at(5, 100, 150, 9, 8);

        fresh("7 places: rules would tell two places");
        for (int shape = 0; shape < 3; shape++) {
            box(shape, 0, 0, 0, 5, 5);
        }
        lay(0, 0, TOUCH, 0, 1);
        lay(1, 0, TOUCH, 1, 2);
        lay(2, 0, TIE, 0, 2);
        resize(STATE, 0, 0, 6, 5);
        resize(STATE, 0, 1, 4, 5);
        resize(1, 0, 2, 4, 5);
        resize(1, 0, 0, 5, 9);
        at(2, 10, 0, 4, 5);

        fresh("7 places: a number would leave its range");
        box(0, 0, 990, -990, 9, 9);
        box(1, 0, 0, 0, 9, 9);
        lay(0, 0, TOUCH, 0, 1);
        lay(1, 0, OVER, 1, 0);
        at(0, 990, 9, 9, 9);
        resize(STATE, 0, 0, 10, 9);
        resize(2, 0, 1, 9, 99);
        move(2, 0, 1, 999, -999);
        resize(STATE, 0, 0, 10, 99);
        resize(2, 0, 1, 99, 1);
        at(0, 990, -998, 9, 9);
        at(1, 999, -999, 99, 1);
    }

    /** Rings of rules that fit no more, with the lead in them and beside them, and in acts that are done again. */
    private void rings() {
        fresh("7 places: a ring beside the lead");
        for (int shape = 0; shape < 6; shape++) {
            box(shape, 0, shape, shape, 5, 5);
        }
        lay(0, 0, ALIGN, 0, 1);
        lay(1, 0, TOUCH, 1, 2);
        lay(2, 0, TOUCH, 2, 3);
        lay(3, 0, TIE, 1, 3);
        lay(4, 0, WIDTH, 5, 2);
        lay(5, 0, WIDTH, 4, 3);
        resize(STATE, 1, 5, 6, 5);
        resize(STATE, 1, 5, 4, 5);
        resize(2, 1, 4, 4, 5);
        at(2, 5, 2, 5, 5);
        at(3, 10, 3, 4, 5);
        drop(5, 1, 3);
        resize(3, 1, 5, 6, 5);
        at(1, 0, 1, 5, 5);
        at(2, 5, 2, 6, 5);
        at(3, 11, 3, 4, 5);

        fresh("17 a ring in acts that are done again");
        for (int shape = 0; shape < 4; shape++) {
            box(shape, 0, shape, shape, 5, 5);
        }
        lay(0, 2, OVER, 0, 1);
        lay(1, 2, OVER, 1, 2);
        lay(2, 2, TIE, 0, 2);
        lay(3, 2, HEIGHT, 3, 1);
        back(0, 2);
        back(0, 2);
        resize(2, 3, 1, 5, 8);
        at(2, 2, 13, 5, 5);
        on(1, 2, 0);
        due(1, "isVoid", () -> board.isVoid(8));
        at(1, 1, 5, 5, 5);
        at(2, 2, 10, 5, 5);
        on(1, 2, 0);
        move(3, 1, 2, 0, 0);
        askAndMake(0, "b0:-2,-10,5,5;b1:1,-5,5,5;b2:0,0,5,5;b3:3,3,5,5;r0;r1;r2;r3;");
        due(0, "broken", () -> board.broken());
        back(1, 2);
        back(0, 2);
        at(1, 1, -8, 5, 8);
        at(0, 0, -13, 5, 5);
    }

    /** Places that would be told behind a number's end, for the first and the last shape and both axes. */
    private void ends() {
        fresh("7 places: the first shape behind the lowest number");
        box(0, 0, -998, -998, 3, 3);
        box(1, 0, 0, 0, 3, 3);
        lay(0, 0, TOUCH, 0, 1);
        lay(1, 0, OVER, 0, 1);
        lay(2, 0, WIDTH, 0, 1);
        lay(3, 0, HEIGHT, 0, 1);
        resize(2, 1, 1, 4, 4);
        at(0, -999, -999, 4, 4);
        at(1, -995, -995, 4, 4);
        resize(STATE, 1, 1, 5, 4);
        resize(STATE, 1, 1, 4, 5);
        resize(2, 1, 0, 5, 5);
        at(0, -999, -999, 5, 5);
        at(1, -994, -994, 5, 5);

        fresh("7 places: the last shape behind the highest number");
        for (int shape = 0; shape < 10; shape++) {
            box(shape, 0, 987 + shape, 987 + shape, 4, 4);
        }
        lay(STATE, 0, TOUCH, 9, 8);
        lay(STATE, 0, OVER, 9, 8);
        lay(0, 0, TOUCH, 8, 9);
        lay(1, 0, OVER, 8, 9);
        at(9, 999, 999, 4, 4);
        resize(STATE, 1, 8, 5, 4);
        resize(STATE, 1, 8, 4, 5);
        resize(2, 1, 8, 3, 2);
        at(9, 998, 997, 4, 4);
    }

    private void rules() {
        fresh("8 lay");
        box(0, 0, 0, 0, 5, 6);
        box(1, 0, 100, 200, 7, 8);
        due(OUT, "drawer", () -> board.lay(4, 9, 0, 0));
        lay(OUT, 0, 9, 0, 2);
        lay(OUT, 0, 9, -1, 0);
        lay(BAD, 0, -1, 0, 1);
        lay(BAD, 0, 7, 0, 1);
        lay(BAD, 0, WIDTH, 1, 1);
        lay(0, 0, WIDTH, 0, 1);
        at(1, 100, 200, 5, 8);
        lay(1, 1, HEIGHT, 1, 0);
        at(0, 0, 0, 5, 8);
        lay(2, 2, ALIGN, 1, 0);
        at(0, 100, 0, 5, 8);
        lay(3, 3, LEVEL, 0, 1);
        at(1, 100, 0, 5, 8);
        due(1, "isInForce", () -> board.isInForce(3));
        due(6, "acts", () -> board.acts());

        fresh("8 lay: range and shapes that are not there");
        box(0, 0, 998, 998, 2, 1);
        box(1, 1, 0, 0, 1, 2);
        lay(STATE, 0, TOUCH, 0, 1);
        lay(0, 0, OVER, 0, 1);
        at(1, 0, 999, 1, 2);
        lay(1, 0, TOUCH, 1, 0);
        at(0, 1, 998, 2, 1);
        back(2, 1);
        lay(STATE, 0, ALIGN, 0, 1);
        lay(STATE, 0, ALIGN, 1, 0);
        on(0, 1, 0);
        lay(STATE, 3, ALIGN, 1, 0);
        lay(2, 3, TOUCH, 1, 0);
    }

    private void rulesInOnePart() {
        fresh("8 lay: in one part it has to hold already");
        box(0, 0, 0, 0, 5, 5);
        box(1, 0, 9, 9, 5, 5);
        box(2, 0, 20, 20, 5, 5);
        lay(0, 0, ALIGN, 0, 1);
        lay(1, 0, ALIGN, 1, 2);
        at(2, 0, 20, 5, 5);
        lay(STATE, 0, TOUCH, 0, 2);
        lay(2, 0, ALIGN, 2, 0);
        lay(3, 0, OVER, 0, 2);
        at(2, 0, 5, 5, 5);
        lay(STATE, 0, OVER, 2, 0);
        lay(STATE, 0, LEVEL, 2, 0);
        lay(4, 0, OVER, 0, 2);
        lay(5, 0, LEVEL, 2, 1);
        at(1, 0, 5, 5, 5);
        move(3, 0, 1, 7, 15);
        at(0, 7, 10, 5, 5);
        at(2, 7, 15, 5, 5);

        fresh("8 lay: the whole part of b follows");
        for (int shape = 0; shape < 4; shape++) {
            box(shape, 0, shape * 100, 0, 10, 10);
        }
        lay(0, 0, TOUCH, 1, 2);
        lay(1, 0, TOUCH, 0, 2);
        at(1, 0, 0, 10, 10);
        at(2, 10, 0, 10, 10);
        lay(2, 0, ALIGN, 3, 0);
        at(0, 300, 0, 10, 10);
        at(1, 300, 0, 10, 10);
        at(2, 310, 0, 10, 10);
        at(3, 300, 0, 10, 10);
    }

    private void classes() {
        fresh("8 lay: classes");
        for (int shape = 0; shape < 4; shape++) {
            box(shape, 0, shape * 10, 0, shape + 1, shape + 11);
        }
        lay(0, 0, WIDTH, 0, 1);
        lay(1, 0, WIDTH, 2, 3);
        lay(2, 0, WIDTH, 0, 3);
        at(1, 10, 0, 1, 12);
        at(2, 20, 0, 1, 13);
        at(3, 30, 0, 1, 14);
        lay(3, 0, WIDTH, 3, 1);
        resize(4, 0, 1, 50, 12);
        at(0, 0, 0, 50, 11);
        at(2, 20, 0, 50, 13);
        lay(4, 0, HEIGHT, 3, 2);
        at(2, 20, 0, 50, 14);
        resize(2, 0, 2, 50, 1);
        at(3, 30, 0, 50, 1);
        drop(4, 0, 3);
        drop(3, 0, 2);
        resize(2, 0, 1, 3, 12);
        at(0, 0, 0, 3, 11);
        at(2, 20, 0, 50, 1);

        fresh("8 lay: a label keeps its size");
        board.spell(0);
        board.addLabel(0, 0, 0, false);
        box(1, 0, 0, 0, 3, 3);
        board.spell(1);
        board.addLabel(0, 0, 0, false);
        lay(STATE, 0, WIDTH, 1, 0);
        lay(STATE, 0, WIDTH, 0, 2);
        lay(STATE, 0, HEIGHT, 1, 0);
        lay(0, 0, HEIGHT, 0, 2);
        lay(1, 0, WIDTH, 0, 1);
        lay(STATE, 0, WIDTH, 2, 1);
        at(1, 0, 0, 2, 3);

        fresh("8 lay: places are settled after a class, the lead being a");
        box(0, 0, 0, 0, 5, 5);
        box(1, 0, 0, 0, 5, 5);
        box(2, 0, 0, 0, 8, 9);
        lay(0, 0, TOUCH, 1, 2);
        lay(1, 0, TOUCH, 0, 1);
        lay(2, 0, WIDTH, 2, 0);
        at(0, -3, 0, 8, 5);
        at(1, 5, 0, 5, 5);
        at(2, 10, 0, 8, 9);
        lay(3, 0, OVER, 0, 2);
        lay(4, 0, HEIGHT, 2, 0);
        at(0, -3, -4, 8, 9);
        at(2, 10, 5, 8, 9);
    }

    private void ties() {
        fresh("8 lay: ties");
        box(0, 0, 0, 0, 5, 5);
        box(1, 1, 20, -30, 5, 5);
        lay(0, 2, TIE, 0, 1);
        due(2, "part for x", () -> board.part(0, true));
        due(2, "part for y", () -> board.part(1, false));
        move(2, 2, 1, 21, -30);
        at(0, 1, 0, 5, 5);
        lay(STATE, 2, ALIGN, 0, 1);
        lay(STATE, 2, LEVEL, 0, 1);
        lay(1, 2, TIE, 1, 0);
        due(1, "holds", () -> board.holds(1));
        move(2, 2, 1, 22, -31);
        at(0, 2, -1, 5, 5);

        fresh("8 lay: a tie is laid anew as things are then");
        box(0, 0, 0, 0, 5, 5);
        box(1, 1, 20, 30, 5, 5);
        move(1, 1, 1, 50, 60);
        lay(0, 2, TIE, 0, 1);
        back(0, 1);
        at(1, 20, 30, 5, 5);
        move(2, 3, 0, 1, 1);
        at(1, 21, 31, 5, 5);
        on(0, 1, 0);
        at(0, 1, 1, 5, 5);
        at(1, 51, 61, 5, 5);
        resize(1, 2, 0, 99, 99);
        at(1, 51, 61, 5, 5);
    }

    private void drops() {
        fresh("9 drop");
        box(0, 0, 0, 0, 5, 5);
        box(1, 0, 20, 30, 5, 5);
        due(OUT, "rule", () -> board.drop(0, 0));
        lay(0, 0, ALIGN, 0, 1);
        lay(1, 0, LEVEL, 0, 1);
        lay(2, 0, WIDTH, 0, 1);
        due(OUT, "drawer", () -> board.drop(4, 0));
        due(OUT, "rule", () -> board.drop(0, 3));
        due(OUT, "rule", () -> board.drop(0, -1));
        drop(2, 1, 0);
        due(0, "isInForce", () -> board.isInForce(0));
        due(1, "isInForce", () -> board.isInForce(1));
        drop(STATE, 0, 0);
        at(1, 0, 0, 5, 5);
        move(1, 0, 0, 9, 0);
        drop(1, 2, 1);
        drop(0, 3, 2);
        due(9, "acts", () -> board.acts());
        back(0, 1);
        due(1, "a drop taken back", () -> board.isInForce(0));
        at(1, 9, 0, 5, 5);
        move(2, 1, 0, 4, 4);
        at(1, 4, 0, 5, 5);
    }

    private void goingBackAndOn() {
        fresh("10 to 17 trees");
        box(0, 1, 0, 0, 5, 5);
        due(OUT, "back -1", () -> board.back(-1));
        due(OUT, "back 4", () -> board.back(4));
        due(OUT, "on 4", () -> board.on(4, 0));
        due(OUT, "branches -1", () -> board.branches(-1));
        due(OUT, "branches 4", () -> board.branches(4));
        due(OUT, "below -1", () -> board.below(-1));
        due(OUT, "below 4", () -> board.below(4));
        due(OUT, "standsAt -1", () -> board.standsAt(-1));
        due(OUT, "standsAt 4", () -> board.standsAt(4));
        back(STATE, 0);
        on(OUT, 1, 0);
        move(1, 1, 0, 1, 0);
        back(0, 1);
        move(1, 1, 0, 2, 0);
        move(1, 1, 0, 3, 0);
        back(0, 1);
        move(1, 1, 0, 4, 0);
        back(0, 1);
        due(2, "branches", () -> board.branches(1));
        due(2, "standsAt", () -> board.standsAt(1));
        due(2, "below 2", () -> board.below(1));
        back(0, 1);
        at(0, 0, 0, 5, 5);
        due(0, "standsAt", () -> board.standsAt(1));
        due(2, "branches", () -> board.branches(1));
        due(4, "below", () -> board.below(1));
        on(OUT, 1, 2);
        on(OUT, 1, -1);
        on(OUT, 1, MAX);
        on(OUT, 1, MIN);
        on(0, 1, 1);
        due(2, "standsAt", () -> board.standsAt(1));
        on(0, 1, 0);
        due(3, "standsAt", () -> board.standsAt(1));
        at(0, 3, 0, 5, 5);
        back(0, 1);
        on(0, 1, 1);
        due(4, "standsAt", () -> board.standsAt(1));
        at(0, 4, 0, 5, 5);
        due(0, "below a leaf", () -> board.below(1));
        due(0, "branches of a leaf", () -> board.branches(1));
        boolean[] counting = {true, false, true, false, true};
        for (int act = 0; act < counting.length; act++) {
            int asked = act;
            due(counting[act] ? 1 : 0, "counts " + act, () -> board.counts(asked));
            due(0, "isVoid " + act, () -> board.isVoid(asked));
        }
        due(OUT, "counts 5", () -> board.counts(5));
        due(OUT, "counts -1", () -> board.counts(-1));
        due(OUT, "isVoid 5", () -> board.isVoid(5));
        due(OUT, "isVoid -1", () -> board.isVoid(-1));
        due(5, "acts", () -> board.acts());
        move(1, 2, 0, 77, 0);
        back(0, 1);
        at(0, 77, 0, 5, 5);
        due(-1, "standsAt 3", () -> board.standsAt(3));
        due(0, "below of another drawer", () -> board.below(3));
        due(0, "branches of another drawer", () -> board.branches(2));
        back(0, 1);
        back(1, 1);
        back(STATE, 1);
        due(1, "branches of the root", () -> board.branches(1));
        due(5, "below the root", () -> board.below(1));
        due(6, "acts", () -> board.acts());
    }

    private void voidActs() {
        fresh("10, 11, 17, 23 void acts");
        box(0, 0, 0, 0, 5, 5);
        box(1, 1, 50, 50, 5, 5);
        lay(0, 2, ALIGN, 0, 1);
        lay(1, 2, LEVEL, 1, 0);
        move(2, 3, 0, 3, 3);
        drop(1, 2, 0);
        due(0, "broken", () -> board.broken());
        back(3, 1);
        due(2, "broken", () -> board.broken());
        for (int act = 0; act < 6; act++) {
            int asked = act;
            due(act == 2 || act == 3 || act == 5 ? 1 : 0, "isVoid " + act, () -> board.isVoid(asked));
            due(act == 1 ? 0 : 1, "counts " + act, () -> board.counts(asked));
        }
        at(0, 3, 3, 5, 5);
        back(2, 2);
        due(0, "isVoid of one that does not count", () -> board.isVoid(5));
        due(2, "broken", () -> board.broken());
        back(1, 2);
        due(1, "broken", () -> board.broken());
        due(0, "isVoid of one that does not count", () -> board.isVoid(3));
        box(2, 1, 7, 7, 7, 7);
        due(1, "acts of others stay void", () -> board.broken());
        back(1, 1);
        on(0, 1, 0);
        due(0, "broken", () -> board.broken());
        due(0, "isVoid", () -> board.isVoid(2));
        on(0, 2, 0);
        at(0, 3, 3, 5, 5);
        at(1, 3, 3, 5, 5);
        back(0, 3);
        at(0, 0, 50, 5, 5);
        at(1, 0, 50, 5, 5);

        fresh("17 an act that failed by another's one is done again");
        box(0, 0, 990, 0, 5, 5);
        box(1, 0, 0, 0, 5, 5);
        move(1, 1, 0, 0, 0);
        lay(0, 2, TOUCH, 0, 1);
        resize(2, 3, 0, 10, 5);
        due(0, "isVoid", () -> board.isVoid(4));
        back(1, 1);
        due(1, "isVoid", () -> board.isVoid(4));
        due(0, "broken", () -> board.broken());
        at(0, 990, 0, 5, 5);
        at(1, 995, 0, 5, 5);
        on(0, 1, 0);
        at(1, 10, 0, 5, 5);
    }

    private void numbers() {
        fresh("18, 19, 20 numbers");
        box(0, 0, 1, -2, 3, 4);
        at(0, 1, -2, 3, 4);
        due(OUT, "isThere -1", () -> board.isThere(-1));
        due(OUT, "isThere 1", () -> board.isThere(1));
        due(OUT, "number of 1", () -> board.number(1, 4));
        due(OUT, "number of -1", () -> board.number(-1, 0));
        due(OUT, "numberAnew of 1", () -> board.numberAnew(1, 4));
        due(OUT, "numberAnew of -1", () -> board.numberAnew(-1, 4));
        for (int what : new int[] {-1, 4, MIN, MAX}) {
            due(BAD, "number " + what, () -> board.number(0, what));
            due(BAD, "numberAnew " + what, () -> board.numberAnew(0, what));
        }
        due(1, "isThere", () -> board.isThere(0));
        back(0, 0);
        due(0, "isThere", () -> board.isThere(0));
        due(BAD, "number, not there", () -> board.number(0, 4));
        due(BAD, "numberAnew, not there", () -> board.numberAnew(0, -1));
        for (int what = 0; what < 4; what++) {
            int asked = what;
            due(NO_SUCH, "number " + what, () -> board.number(0, asked));
            due(NO_SUCH, "numberAnew " + what, () -> board.numberAnew(0, asked));
        }
    }

    private void askedOfRules() {
        fresh("21, 22 isInForce and holds");
        box(0, 0, 0, 0, 5, 6);
        box(1, 1, 5, 6, 7, 8);
        int[] kinds = {WIDTH, HEIGHT, TOUCH, ALIGN, OVER, LEVEL, TIE};
        for (int rule = 0; rule < kinds.length; rule++) {
            int asked = rule;
            lay(rule, 2, kinds[rule], 0, 1);
            due(1, "isInForce " + rule, () -> board.isInForce(asked));
            due(1, "holds " + rule, () -> board.holds(asked));
            back(0, 2);
            due(0, "isInForce " + rule, () -> board.isInForce(asked));
            // As they are now, the second box touches the first one and is over it, and no more.
            due(rule == 6 ? NO_SUCH : rule == 2 || rule == 4 ? 1 : 0, "holds " + rule, () -> board.holds(asked));
        }
        due(OUT, "isInForce -1", () -> board.isInForce(-1));
        due(OUT, "isInForce 7", () -> board.isInForce(7));
        due(OUT, "holds -1", () -> board.holds(-1));
        due(OUT, "holds 7", () -> board.holds(7));
        move(1, 2, 1, 0, 0);
        resize(1, 2, 1, 5, 6);
        int[] holding = {1, 1, 0, 1, 0, 1};
        for (int rule = 0; rule < holding.length; rule++) {
            int asked = rule;
            due(holding[rule], "holds " + rule, () -> board.holds(asked));
        }
        back(2, 1);
        for (int rule = 0; rule < kinds.length; rule++) {
            int asked = rule;
            due(NO_SUCH, "holds " + rule, () -> board.holds(asked));
            due(0, "isInForce " + rule, () -> board.isInForce(asked));
        }
        on(0, 1, 0);
        back(0, 0);
        due(NO_SUCH, "holds, the first shape gone", () -> board.holds(2));
    }

    private void parts() {
        fresh("24 part");
        for (int shape = 0; shape < 5; shape++) {
            box(shape, 0, shape, shape, 5, 5);
        }
        due(OUT, "part -1", () -> board.part(-1, true));
        due(OUT, "part 5", () -> board.part(5, false));
        lay(0, 1, WIDTH, 0, 1);
        lay(1, 1, HEIGHT, 0, 1);
        isPart(0, 1, 1);
        lay(2, 1, TOUCH, 4, 3);
        lay(3, 1, ALIGN, 2, 1);
        isPart(3, 2, 1);
        isPart(1, 2, 1);
        lay(4, 1, OVER, 3, 2);
        lay(5, 1, LEVEL, 1, 0);
        isPart(2, 2, 2);
        isPart(0, 1, 2);
        lay(6, 1, TIE, 3, 2);
        isPart(1, 4, 2);
        isPart(4, 4, 1);
        isPart(3, 4, 2);
        lay(7, 1, TIE, 1, 3);
        isPart(0, 1, 4);
        isPart(2, 4, 4);
        drop(7, 1, 6);
        isPart(2, 4, 4);
        drop(6, 1, 7);
        isPart(2, 2, 2);
        isPart(4, 2, 1);
        back(1, 0);
        due(NO_SUCH, "part of one not there", () -> board.part(4, true));
    }

    private void isPart(int shape, int forX, int forY) {
        due(forX, "part for x of " + shape, () -> board.part(shape, true));
        due(forY, "part for y of " + shape, () -> board.part(shape, false));
    }

    private void exports() {
        fresh("25 to 29 exports");
        box(0, 0, 1, 2, 3, 4);
        due(0, "ask", () -> board.ask());
        move(1, 0, 0, -1, -20);
        due(1, "ask", () -> board.ask());
        back(0, 0);
        back(0, 0);
        due(2, "ask", () -> board.ask());
        for (int export = 0; export < 3; export++) {
            waits(export);
        }
        due(0, "make", () -> board.make());
        exported(0, "b0:1,2,3,4;");
        waits(1);
        on(0, 0, 0);
        due(1, "make", () -> board.make());
        exported(1, "b0:-1,-20,3,4;");
        waits(2);
        due(2, "make", () -> board.make());
        exported(2, "");
        due(-1, "make", () -> board.make());
        for (int export : new int[] {-1, 3, MIN, MAX}) {
            due(OUT, "length " + export, () -> board.length(export));
            due(OUT, "charAt " + export, () -> board.charAt(export, -1));
            due(OUT, "charAnew " + export, () -> board.charAnew(export, -1));
        }
        for (int at : new int[] {-1, 11, MIN, MAX}) {
            due(NO_SUCH, "charAt " + at, () -> board.charAt(0, at));
            due(NO_SUCH, "charAnew " + at, () -> board.charAnew(0, at));
        }
        for (int export = 3; export < 10; export++) {
            due(export, "ask", () -> board.ask());
        }
        due(STATE, "an eleventh", () -> board.ask());
        due(3, "make", () -> board.make());
        due(STATE, "those made count too", () -> board.ask());
    }

    private void waits(int export) {
        due(NO_SUCH, "length " + export, () -> board.length(export));
        due(NO_SUCH, "charAt " + export, () -> board.charAt(export, 0));
        due(NO_SUCH, "charAnew " + export, () -> board.charAnew(export, 0));
    }

    private void exportTexts() {
        fresh("27 to 29 texts");
        board.spell(25);
        board.spell(26);
        board.spell(12);
        board.addLabel(0, -999, 100, false);
        board.addLabel(0, 10, -10, true);
        box(2, 1, 0, 9, 99, 10);
        box(3, 2, -1, 999, 1, 9);
        board.clearSpelled();
        board.spell(26);
        board.addLabel(3, 101, -100, true);
        lay(0, 1, TIE, 0, 1);
        lay(1, 1, HEIGHT, 0, 2);
        lay(2, 1, LEVEL, 3, 4);
        drop(2, 0, 1);
        askAndMake(0, "t0:-999,100,6,2,z\uD83D\uDCD0m;t1:10,-10,6,2,m\uD83D\uDCD0z;b2:0,9,99,2;b3:-1,999,1,9;"
                + "t4:101,999,2,2,\uD83D\uDCD0;r0;r2;");
        back(1, 2);
        askAndMake(1, "t0:-999,100,6,2,z\uD83D\uDCD0m;t1:10,-10,6,2,m\uD83D\uDCD0z;b2:0,9,99,2;"
                + "t4:101,-100,2,2,\uD83D\uDCD0;r0;");
        exported(0, "t0:-999,100,6,2,z\uD83D\uDCD0m;t1:10,-10,6,2,m\uD83D\uDCD0z;b2:0,9,99,2;b3:-1,999,1,9;"
                + "t4:101,999,2,2,\uD83D\uDCD0;r0;r2;");

        fresh("27 to 29 the longest text");
        for (int letter = 0; letter < 5; letter++) {
            board.spell(26);
        }
        StringBuilder text = new StringBuilder();
        for (int shape = 0; shape < 10; shape++) {
            board.addLabel(0, -999, -999, false);
            text.append("t").append(shape).append(":-999,-999,10,2,");
            text.append("\uD83D\uDCD0".repeat(5)).append(";");
        }
        for (int rule = 0; rule < 12; rule++) {
            lay(rule, 1, rule % 7 == TOUCH || rule % 7 == OVER ? TIE : rule % 7, rule % 9, rule % 9 + 1);
            text.append("r").append(rule).append(";");
        }
        askAndMake(0, text.toString());
    }

    private void limits() {
        fresh("4 to 9 limits: 12 rules");
        box(0, 0, 0, 0, 5, 5);
        box(1, 1, 0, 0, 5, 5);
        for (int rule = 0; rule < 12; rule++) {
            lay(rule, 0, ALIGN, 0, 1);
        }
        lay(STATE, 0, ALIGN, 0, 1);
        lay(BAD, 0, ALIGN, 1, 1);
        back(0, 0);
        lay(STATE, 0, ALIGN, 0, 1);
        due(14, "acts", () -> board.acts());

        fresh("4 to 9 limits: 60 acts");
        board.spell(0);
        box(0, 0, 0, 0, 5, 5);
        box(1, 1, 0, 0, 5, 5);
        lay(0, 2, ALIGN, 0, 1);
        for (int act = 3; act < 60; act++) {
            move(2, 3, 0, act, 0);
        }
        due(60, "acts", () -> board.acts());
        due(STATE, "addBox", () -> board.addBox(0, 0, 0, 1, 1));
        due(STATE, "addLabel", () -> board.addLabel(0, 0, 0, false));
        move(STATE, 0, 0, 0, 0);
        resize(STATE, 0, 0, 1, 1);
        lay(STATE, 0, LEVEL, 0, 1);
        drop(STATE, 0, 0);
        due(OUT, "no shape was added", () -> board.isThere(2));
        due(OUT, "no rule was laid", () -> board.isInForce(1));
        due(59, "standsAt", () -> board.standsAt(3));
        due(1, "counts", () -> board.counts(59));
        back(0, 3);
        due(0, "counts", () -> board.counts(59));
        at(1, 58, 0, 5, 5);
        move(STATE, 0, 0, 0, 0);
        on(0, 3, 0);
        for (int act = 59; act >= 3; act--) {
            back(0, 3);
        }
        at(1, 0, 0, 5, 5);
        due(57, "below", () -> board.below(3));
    }

    private void longestBranch() {
        fresh("10 to 17 trees: one branch of 60 acts");
        box(0, 0, 0, 0, 5, 5);
        due(0, "branches of the last act", () -> board.branches(0));
        on(OUT, 0, 0);
        for (int act = 1; act < 60; act++) {
            move(1, 0, 0, act, 0);
        }
        due(1, "counts 0", () -> board.counts(0));
        due(1, "counts 59", () -> board.counts(59));
        back(0, 0);
        at(0, 58, 0, 5, 5);
        on(0, 0, 0);
        at(0, 59, 0, 5, 5);
        for (int act = 0; act < 60; act++) {
            back(0, 0);
        }
        due(60, "below the root", () -> board.below(0));
        back(STATE, 0);
        due(0, "isThere", () -> board.isThere(0));
    }

    private void failedCallsLeaveNoTrace() {
        fresh("a call that throws changes nothing");
        box(0, 0, 0, 0, 5, 5);
        box(1, 1, 9, 990, 5, 5);
        lay(0, 2, TOUCH, 0, 1);
        lay(1, 2, OVER, 0, 1);
        move(2, 2, 1, 999, 999);
        resize(STATE, 2, 0, 6, 4);
        resize(STATE, 2, 0, 4, 6);
        move(STATE, 2, 0, 999, 0);
        move(STATE, 2, 0, 0, 999);
        lay(STATE, 2, ALIGN, 0, 1);
        drop(OUT, 2, 2);
        at(0, 994, 994, 5, 5);
        at(1, 999, 999, 5, 5);
        due(5, "acts", () -> board.acts());
        due(4, "standsAt", () -> board.standsAt(2));
        due(0, "below", () -> board.below(2));
        due(OUT, "isInForce 2", () -> board.isInForce(2));
        lay(2, 3, WIDTH, 0, 1);
        resize(STATE, 3, 0, 5, 99);
        back(3, 0);
        resize(STATE, 3, 0, 5, 99);
        move(1, 3, 1, 0, 0);
        on(0, 0, 0);
        at(0, -5, -5, 5, 5);
        at(1, 0, 0, 5, 5);
        askAndMake(0, "b0:-5,-5,5,5;b1:0,0,5,5;r0;r1;r2;");
    }
}
