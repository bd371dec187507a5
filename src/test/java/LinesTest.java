import java.io.IOException;

/** Each line under a promise of the document (what is returned, ranges, what is thrown) has a test of its own. */
final class LinesTest extends SentenceChecks {
    private static final int[] NO_DRAWERS = {-1, 4, MIN, MAX};

    private LinesTest() throws IOException {
        super("\\d+");
    }

    public static void main(String[] args) throws IOException {
        LinesTest test = new LinesTest();
        test.newObject();
        test.spell();
        test.clearSpelled();
        test.addBox();
        test.addLabel();
        test.move();
        test.resize();
        test.lay();
        test.drop();
        test.back();
        test.on();
        test.branches();
        test.below();
        test.standsAt();
        test.actsMade();
        test.counts();
        test.isVoid();
        test.isThere();
        test.number();
        test.numberAnew();
        test.isInForce();
        test.holds();
        test.broken();
        test.part();
        test.ask();
        test.make();
        test.length();
        test.charAt();
        test.charAnew();
        test.end("LinesTest");
    }

    // ---- what several tests start from

    private void movesUpTo(int acts) {
        for (int act = Integer.parseInt(Checks.answerOf(() -> board.acts())); act < acts; act++) {
            move(1, 3, 0, act, 0);
        }
    }

    // ---- the new object and the spelled text

    private void newObject() {
        section("1");
        says("Begins with an empty board, without acts and exports.");
        acts(0);
        counts(OUT, 0);
        isVoid(OUT, 0);
        isThere(OUT, 0);
        isInForce(OUT, 0);
        broken(0);
        make(-1);
        length(OUT, 0);
        clear(0);
        for (int drawer = 0; drawer < 4; drawer++) {
            stands(-1, drawer);
            branches(0, drawer);
            below(0, drawer);
        }
        askAndMake(0, "");
        box(0, 0, 0, 0, 5, 5);
        Sketchlock other = new Sketchlock();
        due(0, "acts of another one", other::acts);
        due(-1, "make of another one", other::make);
        endSection();
    }

    private void spell() {
        section("2");
        says("Puts a letter at the end of the spelled text.");
        spell(7, 8);
        label(0, 0, 0, 0, false);
        spell(0);
        label(1, 0, 0, 0, false);
        askAndMake(0, "t0:0,0,4,2,hi;t1:0,0,6,2,hia;");
        says("Returns how many chars it has then.");
        letter(1, 0);
        letter(2, 25);
        letter(4, 26);
        letter(5, 1);
        letter(7, 26);
        says("Throws `IndexOutOfBoundsException` as told");
        for (int letter : new int[] {-1, 27, MIN, MAX, 26 + 256}) {
            letter(OUT, letter);
        }
        clear(0);
        says("Throws `IllegalStateException` if it has 5 letters");
        for (int letters = 1; letters <= 5; letters++) {
            letter(letters, letters);
        }
        letter(STATE, 0);
        letter(STATE, 26);
        again();
        for (int letters = 1; letters <= 5; letters++) {
            letter(2 * letters, 26);
        }
        letter(STATE, 0);
        endSection();
    }

    private void clearSpelled() {
        section("3");
        says("Empties the spelled text.");
        spell(0, 1, 2, 3, 4);
        clear(5);
        label(STATE, 0, 0, 0, false);
        letter(1, 5);
        label(0, 0, 0, 0, false);
        at(0, 0, 0, 2, 2);
        says("Returns how many letters it had.");
        clear(0);
        spell(26, 26, 26, 26, 26);
        clear(5);
        clear(0);
        spell(26);
        clear(1);
        endSection();
    }

    // ---- acts

    private void addBox() {
        section("4");
        says("Adds a box.");
        box(0, 2, 1, -2, 3, 4);
        askAndMake(0, "b0:1,-2,3,4;");
        stands(0, 2);
        says("- `x`: -999 to 999");
        box(BAD, 0, -1000, 0, 5, 5);
        box(BAD, 0, 1000, 0, 5, 5);
        box(0, 0, -999, 0, 5, 5);
        box(1, 0, 999, 0, 5, 5);
        at(0, -999, 0, 5, 5);
        at(1, 999, 0, 5, 5);
        says("- `y`: -999 to 999");
        box(BAD, 0, 0, -1000, 5, 5);
        box(BAD, 0, 0, 1000, 5, 5);
        box(0, 0, 0, -999, 5, 5);
        box(1, 0, 0, 999, 5, 5);
        at(0, 0, -999, 5, 5);
        at(1, 0, 999, 5, 5);
        says("- `width`: 1 to 99");
        box(BAD, 0, 0, 0, 0, 5);
        box(BAD, 0, 0, 0, 100, 5);
        box(0, 0, 0, 0, 1, 5);
        box(1, 0, 0, 0, 99, 5);
        at(0, 0, 0, 1, 5);
        at(1, 0, 0, 99, 5);
        says("- `height`: 1 to 99");
        box(BAD, 0, 0, 0, 5, 0);
        box(BAD, 0, 0, 0, 5, 100);
        box(0, 0, 0, 0, 5, 1);
        box(1, 0, 0, 0, 5, 99);
        at(0, 0, 0, 5, 1);
        at(1, 0, 0, 5, 99);
        says("Returns the number of the shape.");
        box(0, 1, 0, 0, 5, 5);
        box(1, 3, 0, 0, 5, 5);
        back(0, 3);
        box(2, 0, 0, 0, 5, 5);
        says("Throws `IndexOutOfBoundsException` as told, of the drawer");
        for (int drawer : NO_DRAWERS) {
            box(OUT, drawer, 0, 0, 5, 5);
        }
        box(0, 3, 0, 0, 5, 5);
        says("Throws `IllegalArgumentException` if x, y, width or height is out of range");
        for (int number : new int[] {MIN, MAX, 1000, -1000}) {
            box(BAD, 0, number, 0, 5, 5);
            box(BAD, 0, 0, number, 5, 5);
            box(BAD, 0, 0, 0, number, 5);
            box(BAD, 0, 0, 0, 5, number);
        }
        box(BAD, 0, 0, 0, -1, 5);
        box(BAD, 0, 0, 0, 5, -1);
        acts(0);
        says("Throws `IllegalStateException` if there are 10 shapes or 60 acts");
        boxes(9);
        spell(0);
        label(9, 1, 0, 0, false);
        box(STATE, 0, 0, 0, 5, 5);
        back(0, 1);
        box(STATE, 0, 0, 0, 5, 5);
        again();
        boxes(1);
        movesUpTo(59);
        box(1, 1, 0, 0, 5, 5);
        box(STATE, 1, 0, 0, 5, 5);
        back(0, 1);
        box(STATE, 1, 0, 0, 5, 5);
        isThere(OUT, 2);
        endSection();
    }

    private void addLabel() {
        section("5");
        says("Adds a label with the spelled text.");
        spell(3, 26);
        label(0, 1, -1, 2, false);
        askAndMake(0, "t0:-1,2,4,2,d" + PAIR + ";");
        stands(0, 1);
        says("- `x`: -999 to 999");
        spell(0);
        label(BAD, 0, -1000, 0, false);
        label(BAD, 0, 1000, 0, false);
        label(0, 0, -999, 0, false);
        label(1, 0, 999, 0, true);
        at(0, -999, 0, 2, 2);
        at(1, 999, 0, 2, 2);
        says("- `y`: -999 to 999");
        spell(0);
        label(BAD, 0, 0, -1000, false);
        label(BAD, 0, 0, 1000, false);
        label(0, 0, 0, -999, false);
        label(1, 0, 0, 999, true);
        at(0, 0, -999, 2, 2);
        at(1, 0, 999, 2, 2);
        says("Returns the number of the shape.");
        spell(0);
        label(0, 3, 0, 0, false);
        label(1, 2, 0, 0, false);
        back(0, 2);
        label(2, 2, 0, 0, false);
        says("Throws `IndexOutOfBoundsException` as told, of the drawer");
        spell(0);
        for (int drawer : NO_DRAWERS) {
            label(OUT, drawer, 0, 0, false);
        }
        label(0, 3, 0, 0, false);
        says("Throws `IllegalArgumentException` if x or y is out of range");
        spell(0);
        for (int number : new int[] {MIN, MAX, 1000, -1000}) {
            label(BAD, 0, number, 0, false);
            label(BAD, 0, 0, number, false);
        }
        acts(0);
        says("Throws `IllegalStateException` if the text is empty, or there are 10 shapes or 60 acts");
        label(STATE, 0, 0, 0, false);
        spell(0);
        label(0, 0, 0, 0, false);
        clear(1);
        label(STATE, 0, 0, 0, false);
        again();
        boxes(9);
        spell(0);
        label(9, 0, 0, 0, false);
        label(STATE, 0, 0, 0, false);
        again();
        boxes(1);
        spell(0);
        movesUpTo(59);
        label(1, 1, 0, 0, false);
        label(STATE, 1, 0, 0, false);
        isThere(OUT, 2);
        endSection();
    }

    private void move() {
        section("6");
        says("Moves a shape.");
        boxes(2);
        move(1, 1, 0, 7, -8);
        at(0, 7, -8, 5, 5);
        at(1, 10, 10, 5, 5);
        stands(2, 1);
        says("- `x`: -999 to 999");
        boxes(1);
        move(BAD, 0, 0, -1000, 0);
        move(BAD, 0, 0, 1000, 0);
        move(1, 0, 0, -999, 0);
        number(-999, 0, 0);
        move(1, 0, 0, 999, 0);
        number(999, 0, 0);
        says("- `y`: -999 to 999");
        boxes(1);
        move(BAD, 0, 0, 0, -1000);
        move(BAD, 0, 0, 0, 1000);
        move(1, 0, 0, 0, -999);
        number(-999, 0, 1);
        move(1, 0, 0, 0, 999);
        number(999, 0, 1);
        says("Returns how many shapes are at other places by that.");
        boxes(5);
        lay(0, 1, ALIGN, 0, 1);
        lay(1, 1, LEVEL, 0, 2);
        lay(2, 1, TIE, 2, 3);
        move(0, 2, 0, 0, 0);
        acts(9);
        move(2, 2, 0, 1, 0);
        move(3, 2, 0, 1, 1);
        move(4, 2, 0, 2, 2);
        move(1, 2, 4, 40, 41);
        says("Throws `IndexOutOfBoundsException` as told, of the drawer or the shape");
        boxes(2);
        for (int drawer : NO_DRAWERS) {
            move(OUT, drawer, 0, 0, 0);
        }
        for (int shape : new int[] {-1, 2, MIN, MAX}) {
            move(OUT, 0, shape, 0, 0);
        }
        move(1, 3, 1, 0, 0);
        says("Throws `IllegalArgumentException` if x or y is out of range");
        boxes(1);
        for (int number : new int[] {MIN, MAX, 1000, -1000}) {
            move(BAD, 0, 0, number, 0);
            move(BAD, 0, 0, 0, number);
        }
        acts(1);
        says("Throws `IllegalStateException` if that cannot be done, or there are 60 acts");
        boxes(2);
        lay(0, 1, TIE, 0, 1);
        move(STATE, 2, 0, 990, 0);
        move(STATE, 2, 0, 0, 990);
        move(STATE, 2, 1, -990, 10);
        move(STATE, 2, 1, 10, -990);
        move(2, 2, 0, 989, 989);
        back(0, 2);
        back(1, 0);
        move(STATE, 2, 1, 0, 0);
        again();
        boxes(1);
        movesUpTo(59);
        move(1, 1, 0, 1, 1);
        move(STATE, 1, 0, 2, 2);
        at(0, 1, 1, 5, 5);
        endSection();
    }

    private void resize() {
        section("7");
        says("Gives a box another size.");
        boxes(2);
        resize(1, 1, 0, 7, 8);
        at(0, 0, 0, 7, 8);
        at(1, 10, 10, 5, 5);
        stands(2, 1);
        says("- `width`: 1 to 99");
        boxes(1);
        resize(BAD, 0, 0, 0, 5);
        resize(BAD, 0, 0, 100, 5);
        resize(1, 0, 0, 1, 5);
        number(1, 0, 2);
        resize(1, 0, 0, 99, 5);
        number(99, 0, 2);
        says("- `height`: 1 to 99");
        boxes(1);
        resize(BAD, 0, 0, 5, 0);
        resize(BAD, 0, 0, 5, 100);
        resize(1, 0, 0, 5, 1);
        number(1, 0, 3);
        resize(1, 0, 0, 5, 99);
        number(99, 0, 3);
        says("Returns how many shapes are at other places by that, or have another size.");
        boxes(6);
        lay(0, 1, WIDTH, 0, 1);
        lay(1, 1, HEIGHT, 1, 2);
        lay(2, 1, TOUCH, 1, 3);
        lay(3, 1, OVER, 2, 4);
        resize(0, 2, 0, 5, 5);
        acts(11);
        resize(1, 2, 0, 5, 6);
        resize(3, 2, 0, 6, 6);
        resize(3, 2, 1, 6, 7);
        resize(5, 2, 1, 7, 8);
        resize(1, 2, 5, 6, 5);
        says("Throws `IndexOutOfBoundsException` as told, of the drawer or the shape");
        boxes(2);
        for (int drawer : NO_DRAWERS) {
            resize(OUT, drawer, 0, 6, 6);
        }
        for (int shape : new int[] {-1, 2, MIN, MAX}) {
            resize(OUT, 0, shape, 6, 6);
        }
        resize(1, 3, 1, 6, 6);
        says("Throws `IllegalArgumentException` if width or height is out of range");
        boxes(1);
        for (int number : new int[] {MIN, MAX, 0, -1, 100}) {
            resize(BAD, 0, 0, number, 5);
            resize(BAD, 0, 0, 5, number);
        }
        acts(1);
        says("Throws `IllegalStateException` if that cannot be done, or there are 60 acts");
        boxes(2);
        spell(0);
        label(2, 0, 0, 0, false);
        move(1, 0, 0, 994, 994);
        lay(0, 1, TOUCH, 0, 1);
        lay(1, 1, OVER, 0, 1);
        resize(STATE, 2, 2, 3, 2);
        resize(STATE, 2, 2, 2, 3);
        resize(STATE, 2, 0, 6, 5);
        resize(STATE, 2, 0, 5, 6);
        resize(1, 2, 1, 6, 6);
        lay(2, 1, TIE, 0, 1);
        resize(STATE, 2, 0, 4, 5);
        resize(STATE, 2, 0, 5, 4);
        back(0, 0);
        back(0, 0);
        resize(STATE, 2, 2, 2, 2);
        again();
        boxes(1);
        movesUpTo(59);
        resize(1, 1, 0, 1, 1);
        resize(STATE, 1, 0, 2, 2);
        number(1, 0, 2);
        endSection();
    }

    private void lay() {
        section("8");
        says("Lays a rule.");
        boxes(2);
        lay(0, 1, ALIGN, 1, 0);
        at(0, 10, 0, 5, 5);
        isInForce(1, 0);
        stands(2, 1);
        says("- `kind`: WIDTH to TIE");
        boxes(2);
        lay(BAD, 0, -1, 0, 1);
        lay(BAD, 0, 7, 0, 1);
        for (int kind = 0; kind <= 6; kind++) {
            lay(kind, 1, kind, 0, 1);
            back(0, 1);
        }
        says("- `shape`: the shape a");
        box(0, 0, 0, 0, 1, 2);
        box(1, 0, 50, 60, 3, 4);
        lay(0, 1, WIDTH, 1, 0);
        lay(1, 1, OVER, 1, 0);
        at(0, 0, 64, 3, 2);
        at(1, 50, 60, 3, 4);
        says("- `other`: the shape b");
        box(0, 0, 0, 0, 1, 2);
        box(1, 0, 50, 60, 3, 4);
        lay(0, 1, HEIGHT, 0, 1);
        lay(1, 1, TOUCH, 0, 1);
        at(0, 0, 0, 1, 2);
        at(1, 1, 60, 3, 2);
        says("Returns the number of the rule.");
        boxes(2);
        lay(0, 1, TIE, 0, 1);
        lay(1, 2, TIE, 0, 1);
        back(0, 1);
        lay(2, 1, TIE, 0, 1);
        says("Throws `IndexOutOfBoundsException` as told, of the drawer, shape or other");
        boxes(2);
        for (int drawer : NO_DRAWERS) {
            lay(OUT, drawer, ALIGN, 0, 1);
        }
        for (int shape : new int[] {-1, 2, MIN, MAX}) {
            lay(OUT, 0, ALIGN, shape, 1);
            lay(OUT, 0, ALIGN, 0, shape);
        }
        lay(0, 3, ALIGN, 1, 0);
        says("Throws `IllegalArgumentException` if there is no such kind, or both shapes are the same");
        boxes(2);
        for (int kind : new int[] {-1, 7, MIN, MAX}) {
            lay(BAD, 0, kind, 0, 1);
        }
        for (int kind = 0; kind <= 6; kind++) {
            lay(BAD, 0, kind, 0, 0);
            lay(BAD, 0, kind, 1, 1);
        }
        acts(2);
        says("Throws `IllegalStateException` if that cannot be done, or there are 12 rules or 60 acts");
        boxes(2);
        spell(0);
        label(2, 0, 999, 999, false);
        lay(STATE, 1, TOUCH, 2, 0);
        lay(STATE, 1, OVER, 2, 0);
        lay(STATE, 1, WIDTH, 0, 2);
        lay(STATE, 1, HEIGHT, 0, 2);
        lay(0, 1, TIE, 0, 1);
        lay(STATE, 1, ALIGN, 0, 1);
        lay(STATE, 1, LEVEL, 1, 0);
        back(0, 0);
        lay(STATE, 1, TIE, 0, 2);
        lay(STATE, 1, TIE, 2, 0);
        for (int rule = 1; rule < 12; rule++) {
            lay(rule, 1, TIE, 0, 1);
        }
        lay(STATE, 1, TIE, 0, 1);
        again();
        boxes(2);
        movesUpTo(59);
        lay(0, 1, WIDTH, 0, 1);
        lay(STATE, 1, WIDTH, 0, 1);
        isInForce(OUT, 1);
        endSection();
    }

    private void drop() {
        section("9");
        says("Drops a rule.");
        boxes(2);
        lay(0, 1, ALIGN, 0, 1);
        lay(1, 1, LEVEL, 0, 1);
        drop(1, 2, 0);
        isInForce(0, 0);
        isInForce(1, 1);
        part(1, 0, true);
        part(2, 0, false);
        stands(4, 2);
        says("Returns how many rules are in force then.");
        boxes(2);
        for (int rule = 0; rule < 12; rule++) {
            lay(rule, 1, TIE, 0, 1);
        }
        for (int rule = 0; rule < 11; rule++) {
            drop(11 - rule, 2, rule * 5 % 12);
        }
        back(1, 1);
        drop(0, 2, 7);
        says("Throws `IndexOutOfBoundsException` as told, of the drawer or the rule");
        boxes(2);
        drop(OUT, 0, 0);
        lay(0, 1, ALIGN, 0, 1);
        for (int drawer : NO_DRAWERS) {
            drop(OUT, drawer, 0);
        }
        for (int rule : new int[] {-1, 1, MIN, MAX}) {
            drop(OUT, 0, rule);
        }
        drop(0, 3, 0);
        says("Throws `IllegalStateException` if that cannot be done, or there are 60 acts");
        boxes(2);
        lay(0, 1, ALIGN, 0, 1);
        drop(0, 2, 0);
        drop(STATE, 2, 0);
        back(0, 2);
        back(0, 1);
        drop(STATE, 2, 0);
        on(0, 1, 0);
        back(1, 0);
        drop(STATE, 2, 0);
        again();
        boxes(2);
        lay(0, 1, WIDTH, 0, 1);
        lay(1, 1, WIDTH, 0, 1);
        movesUpTo(59);
        drop(1, 1, 0);
        drop(STATE, 1, 1);
        isInForce(1, 1);
        endSection();
    }

    // ---- trees of acts

    private void back() {
        section("10");
        says("Lets a drawer go back: its act at which it stands does not count any more.");
        boxes(1);
        move(1, 1, 0, 1, 0);
        move(1, 1, 0, 2, 0);
        move(1, 2, 0, 3, 3);
        back(0, 1);
        stands(1, 1);
        stands(3, 2);
        counts(0, 2);
        counts(1, 1);
        counts(1, 3);
        at(0, 3, 3, 5, 5);
        back(0, 2);
        at(0, 1, 0, 5, 5);
        says("Returns how many acts that count are void then.");
        boxes(1);
        box(1, 1, 9, 9, 5, 5);
        lay(0, 2, ALIGN, 0, 1);
        drop(0, 3, 0);
        move(1, 3, 1, 4, 4);
        back(3, 1);
        back(2, 3);
        back(1, 3);
        back(0, 2);
        says("Throws `IndexOutOfBoundsException` as told");
        for (int drawer = 0; drawer < 4; drawer++) {
            box(drawer, drawer, 0, 0, 5, 5);
        }
        for (int drawer : NO_DRAWERS) {
            back(OUT, drawer);
        }
        back(0, 3);
        says("Throws `IllegalStateException` if it stands at the root");
        back(STATE, 0);
        boxes(2);
        back(STATE, 1);
        back(0, 0);
        back(0, 0);
        back(STATE, 0);
        stands(-1, 0);
        endSection();
    }

    private void on() {
        section("11");
        says("Lets a drawer go on to a node below the one at which it stands.");
        boxes(1);
        move(1, 1, 0, 1, 0);
        move(1, 1, 0, 2, 0);
        back(0, 1);
        back(0, 1);
        on(0, 1, 0);
        stands(1, 1);
        counts(1, 1);
        counts(0, 2);
        at(0, 1, 0, 5, 5);
        on(0, 1, 0);
        stands(2, 1);
        at(0, 2, 0, 5, 5);
        says("- `branch`: which one of these, from 0");
        boxes(1);
        move(1, 1, 0, 1, 0);
        move(1, 1, 0, 2, 0);
        back(0, 1);
        move(1, 2, 0, 9, 9);
        move(1, 1, 0, 3, 0);
        back(0, 1);
        back(0, 1);
        move(1, 1, 0, 4, 0);
        back(0, 1);
        on(OUT, 1, -1);
        on(OUT, 1, 2);
        on(0, 1, 1);
        stands(5, 1);
        back(0, 1);
        on(0, 1, 0);
        stands(1, 1);
        on(0, 1, 1);
        stands(4, 1);
        back(0, 1);
        on(0, 1, 0);
        stands(2, 1);
        says("Returns how many acts that count are void then.");
        boxes(2);
        lay(0, 1, TIE, 0, 1);
        back(0, 1);
        move(1, 2, 0, 990, 0);
        move(1, 2, 0, 0, 990);
        move(1, 2, 0, 989, 989);
        on(2, 1, 0);
        at(1, 999, 999, 5, 5);
        back(0, 1);
        back(0, 2);
        on(0, 2, 0);
        says("Throws `IndexOutOfBoundsException` as told, of the drawer or the branch");
        for (int drawer = 0; drawer < 4; drawer++) {
            box(drawer, drawer, 0, 0, 5, 5);
            on(OUT, drawer, 0);
            back(0, drawer);
        }
        for (int drawer : NO_DRAWERS) {
            on(OUT, drawer, 0);
        }
        for (int branch : new int[] {-1, 1, MIN, MAX}) {
            on(OUT, 0, branch);
        }
        on(0, 3, 0);
        stands(3, 3);
        endSection();
    }

    private void branches() {
        section("12");
        says("Returns how many nodes hang below the one at which a drawer stands, directly.");
        tree();
        branches(2, 0);
        branches(0, 1);
        on(0, 0, 0);
        branches(3, 0);
        on(0, 0, 1);
        branches(1, 0);
        on(0, 0, 0);
        branches(0, 0);
        says("Throws `IndexOutOfBoundsException` as told");
        for (int drawer : NO_DRAWERS) {
            branches(OUT, drawer);
        }
        branches(0, 3);
        endSection();
    }

    /** Drawer 0 at the root, with two nodes below it; three below the first of them; one below the second of these. */
    private void tree() {
        box(0, 0, 0, 0, 5, 5);
        move(1, 0, 0, 1, 0);
        back(0, 0);
        move(1, 0, 0, 2, 0);
        move(1, 0, 0, 3, 0);
        back(0, 0);
        back(0, 0);
        move(1, 0, 0, 4, 0);
        back(0, 0);
        back(0, 0);
        box(1, 0, 0, 0, 5, 5);
        back(0, 0);
        box(2, 1, 0, 0, 5, 5);
    }

    private void below() {
        section("13");
        says("Returns how many acts are in the tree of a drawer below the node at which it stands, directly or over"
                + " others.");
        tree();
        below(6, 0);
        below(0, 1);
        on(0, 0, 0);
        below(4, 0);
        on(0, 0, 1);
        below(1, 0);
        on(0, 0, 0);
        below(0, 0);
        back(0, 1);
        below(1, 1);
        says("Throws `IndexOutOfBoundsException` as told");
        for (int drawer : NO_DRAWERS) {
            below(OUT, drawer);
        }
        below(0, 3);
        endSection();
    }

    private void standsAt() {
        section("14");
        says("Returns at which act a drawer stands.");
        tree();
        stands(6, 1);
        on(0, 0, 1);
        stands(5, 0);
        back(0, 0);
        on(0, 0, 0);
        on(0, 0, 2);
        stands(4, 0);
        says("Returns the act; NONE at the root.");
        stands(-1, 0);
        boxes(1);
        stands(0, 0);
        stands(-1, 3);
        back(0, 0);
        stands(-1, 0);
        says("Throws `IndexOutOfBoundsException` as told");
        for (int drawer : NO_DRAWERS) {
            stands(OUT, drawer);
        }
        stands(-1, 3);
        endSection();
    }

    private void actsMade() {
        section("15");
        says("Returns how many acts were made.");
        acts(0);
        box(BAD, 0, 0, 0, 0, 0);
        acts(0);
        boxes(2);
        acts(2);
        lay(0, 1, ALIGN, 0, 1);
        lay(STATE, 1, TOUCH, 0, 1);
        acts(3);
        back(0, 1);
        back(0, 0);
        acts(3);
        on(0, 0, 0);
        acts(3);
        drop(STATE, 1, 0);
        movesUpTo(60);
        acts(60);
        box(STATE, 0, 0, 0, 5, 5);
        acts(60);
        endSection();
    }

    private void counts() {
        section("16");
        says("Returns whether an act counts.");
        tree();
        int[] counted = {0, 0, 0, 0, 0, 0, 1};
        for (int act = 0; act < counted.length; act++) {
            counts(counted[act], act);
        }
        on(0, 0, 0);
        on(0, 0, 1);
        int[] counting = {1, 0, 1, 0, 0, 0, 1};
        for (int act = 0; act < counting.length; act++) {
            counts(counting[act], act);
        }
        again();
        boxes(1);
        move(1, 1, 0, 9, 9);
        back(1, 0);
        isVoid(1, 1);
        counts(1, 1);
        says("Throws `IndexOutOfBoundsException` as told");
        counts(OUT, 0);
        boxes(2);
        for (int act : new int[] {-1, 2, MIN, MAX, 60, 64}) {
            counts(OUT, act);
        }
        counts(1, 1);
        endSection();
    }

    private void isVoid() {
        section("17");
        says("Returns whether an act is void");
        boxes(1);
        box(1, 1, 0, 0, 5, 5);
        move(1, 2, 1, 1, 1);
        lay(0, 3, ALIGN, 0, 1);
        for (int act = 0; act < 4; act++) {
            isVoid(0, act);
        }
        back(2, 1);
        isVoid(0, 0);
        isVoid(1, 2);
        isVoid(1, 3);
        on(0, 1, 0);
        isVoid(0, 2);
        isVoid(0, 3);
        says("false if it does not count");
        boxes(1);
        box(1, 1, 0, 0, 5, 5);
        move(1, 2, 1, 1, 1);
        back(1, 1);
        isVoid(0, 1);
        isVoid(1, 2);
        back(0, 2);
        isVoid(0, 2);
        says("Throws `IndexOutOfBoundsException` as told");
        isVoid(OUT, 0);
        boxes(2);
        for (int act : new int[] {-1, 2, MIN, MAX, 60, 64}) {
            isVoid(OUT, act);
        }
        isVoid(0, 1);
        endSection();
    }

    // ---- the board

    private void isThere() {
        section("18");
        says("Returns whether a shape is there.");
        boxes(1);
        box(1, 1, 0, 0, 5, 5);
        isThere(1, 0);
        isThere(1, 1);
        back(0, 0);
        isThere(0, 0);
        isThere(1, 1);
        on(0, 0, 0);
        isThere(1, 0);
        says("Throws `IndexOutOfBoundsException` as told");
        isThere(OUT, 0);
        boxes(2);
        for (int shape : new int[] {-1, 2, MIN, MAX, 10, 32, 64}) {
            isThere(OUT, shape);
        }
        isThere(1, 1);
        endSection();
    }

    private void number() {
        section("19");
        says("Returns a number of a shape, as the board is kept.");
        box(0, 0, -1, 2, 3, 4);
        box(1, 0, 5, -6, 7, 8);
        number(-1, 0, 0);
        number(7, 1, 2);
        move(1, 1, 0, 9, 10);
        number(9, 0, 0);
        back(0, 1);
        number(-1, 0, 0);
        says("- `what`: 0 x, 1 y, 2 the width, 3 the height");
        box(0, 0, -1, 2, 3, 4);
        number(-1, 0, 0);
        number(2, 0, 1);
        number(3, 0, 2);
        number(4, 0, 3);
        number(BAD, 0, -1);
        number(BAD, 0, 4);
        says("Throws `IndexOutOfBoundsException` as told");
        number(OUT, 0, 0);
        boxes(2);
        for (int shape : new int[] {-1, 2, MIN, MAX}) {
            number(OUT, shape, 0);
        }
        says("Throws `IllegalArgumentException` if what is out of range");
        boxes(1);
        for (int what : new int[] {-1, 4, MIN, MAX}) {
            number(BAD, 0, what);
        }
        says("Throws `java` .util.NoSuchElementException if the shape is not there");
        boxes(2);
        back(0, 0);
        for (int what = 0; what < 4; what++) {
            number(NO_SUCH, 1, what);
        }
        number(0, 0, 0);
        endSection();
    }

    private void numberAnew() {
        section("20");
        says("Returns the same, found by doing all acts that count on an empty board, places being told rule by rule in"
                + " rounds.");
        for (int shape = 0; shape < 10; shape++) {
            box(shape, 0, 0, 0, 2, 2);
        }
        for (int rule = 0; rule < 9; rule++) {
            lay(rule, 1, TOUCH, 8 - rule, 9 - rule);
        }
        resize(10, 2, 0, 4, 2);
        for (int shape = 0; shape < 10; shape++) {
            numberAnew(shape == 0 ? 0 : 2 + 2 * shape, shape, 0);
            number(shape == 0 ? 0 : 2 + 2 * shape, shape, 0);
        }
        back(0, 2);
        back(0, 1);
        numberAnew(0, 1, 0);
        numberAnew(16, 9, 0);
        resize(9, 2, 1, 5, 2);
        numberAnew(19, 9, 0);
        says("- `what`: 0 x, 1 y, 2 the width, 3 the height");
        box(0, 0, -1, 2, 3, 4);
        numberAnew(-1, 0, 0);
        numberAnew(2, 0, 1);
        numberAnew(3, 0, 2);
        numberAnew(4, 0, 3);
        numberAnew(BAD, 0, -1);
        numberAnew(BAD, 0, 4);
        says("Throws `IndexOutOfBoundsException` as told");
        numberAnew(OUT, 0, 0);
        boxes(2);
        for (int shape : new int[] {-1, 2, MIN, MAX}) {
            numberAnew(OUT, shape, 0);
        }
        says("Throws `IllegalArgumentException` if what is out of range");
        boxes(1);
        for (int what : new int[] {-1, 4, MIN, MAX}) {
            numberAnew(BAD, 0, what);
        }
        says("Throws `java` .util.NoSuchElementException if the shape is not there");
        boxes(2);
        back(0, 0);
        for (int what = 0; what < 4; what++) {
            numberAnew(NO_SUCH, 1, what);
        }
        numberAnew(0, 0, 0);
        endSection();
    }

    private void isInForce() {
        section("21");
        says("Returns whether a rule is in force.");
        boxes(1);
        box(1, 1, 0, 0, 5, 5);
        lay(0, 2, ALIGN, 0, 1);
        lay(1, 2, LEVEL, 0, 1);
        isInForce(1, 0);
        isInForce(1, 1);
        drop(1, 3, 0);
        isInForce(0, 0);
        isInForce(1, 1);
        back(0, 3);
        isInForce(1, 0);
        back(0, 2);
        isInForce(0, 1);
        back(1, 1);
        isInForce(0, 0);
        on(0, 1, 0);
        isInForce(1, 0);
        says("Throws `IndexOutOfBoundsException` as told");
        isInForce(OUT, 0);
        boxes(2);
        lay(0, 1, ALIGN, 0, 1);
        for (int rule : new int[] {-1, 1, MIN, MAX, 12, 32}) {
            isInForce(OUT, rule);
        }
        endSection();
    }

    private void holds() {
        section("22");
        says("Returns whether a rule would hold by the places and sizes on the board, in force or not.");
        boxes(2);
        for (int kind = 0; kind < 6; kind++) {
            lay(kind, 1, kind, 0, 1);
            holds(1, kind);
            back(0, 1);
        }
        int[] first = {1, 1, 0, 0, 0, 0};
        int[] second = {0, 0, 1, 0, 1, 0};
        int[] third = {0, 1, 0, 1, 0, 1};
        for (int rule = 0; rule < 6; rule++) {
            holds(first[rule], rule);
        }
        resize(1, 1, 1, 6, 7);
        move(1, 1, 1, 5, 5);
        for (int rule = 0; rule < 6; rule++) {
            holds(second[rule], rule);
        }
        resize(1, 1, 1, 6, 5);
        move(1, 1, 1, 0, 0);
        for (int rule = 0; rule < 6; rule++) {
            holds(third[rule], rule);
        }
        lay(6, 1, TIE, 0, 1);
        holds(1, 6);
        again();
        boxes(2);
        lay(0, 1, TOUCH, 1, 0);
        back(0, 1);
        holds(0, 0);
        says("Throws `IndexOutOfBoundsException` as told");
        holds(OUT, 0);
        boxes(2);
        lay(0, 1, ALIGN, 0, 1);
        for (int rule : new int[] {-1, 1, MIN, MAX}) {
            holds(OUT, rule);
        }
        says("Throws `java` .util.NoSuchElementException if one of its shapes is not there, or it is a TIE that is not"
                + " in force");
        boxes(1);
        box(1, 1, 20, 20, 5, 5);
        lay(0, 2, ALIGN, 0, 1);
        lay(1, 2, WIDTH, 1, 0);
        lay(2, 2, TIE, 0, 1);
        holds(1, 2);
        back(3, 1);
        for (int rule = 0; rule < 3; rule++) {
            holds(NO_SUCH, rule);
        }
        on(0, 1, 0);
        back(3, 0);
        for (int rule = 0; rule < 3; rule++) {
            holds(NO_SUCH, rule);
        }
        on(0, 0, 0);
        holds(1, 2);
        drop(2, 3, 2);
        holds(NO_SUCH, 2);
        back(0, 3);
        back(0, 2);
        holds(NO_SUCH, 2);
        holds(1, 0);
        endSection();
    }

    private void broken() {
        section("23");
        says("Returns how many rules are broken: the act by which one was laid counts, and is void.");
        boxes(1);
        box(1, 1, 20, 20, 5, 5);
        lay(0, 2, ALIGN, 0, 1);
        lay(1, 2, LEVEL, 0, 1);
        drop(1, 3, 0);
        broken(0);
        back(3, 1);
        broken(2);
        back(2, 3);
        broken(2);
        back(1, 2);
        broken(1);
        back(0, 2);
        broken(0);
        on(1, 2, 0);
        broken(1);
        on(0, 1, 0);
        broken(0);
        endSection();
    }

    private void part() {
        section("24");
        says("Returns how many shapes a part has.");
        boxes(10);
        part(1, 9, true);
        for (int rule = 0; rule < 9; rule++) {
            lay(rule, 1, TIE, 9 - rule, 8 - rule);
            part(2 + rule, 9, true);
            part(2 + rule, 9, false);
        }
        part(10, 0, true);
        says("- `isForX`: the part for x, otherwise that for y");
        boxes(4);
        lay(0, 1, ALIGN, 0, 1);
        lay(1, 1, OVER, 0, 2);
        lay(2, 1, LEVEL, 2, 3);
        part(2, 0, true);
        part(3, 0, false);
        part(2, 1, true);
        part(1, 1, false);
        part(1, 3, true);
        part(3, 3, false);
        says("Throws `IndexOutOfBoundsException` as told");
        part(OUT, 0, true);
        boxes(2);
        for (int shape : new int[] {-1, 2, MIN, MAX}) {
            part(OUT, shape, true);
            part(OUT, shape, false);
        }
        says("Throws `java` .util.NoSuchElementException if the shape is not there");
        boxes(1);
        box(1, 1, 0, 0, 5, 5);
        lay(0, 2, TIE, 0, 1);
        back(1, 1);
        part(NO_SUCH, 1, true);
        part(NO_SUCH, 1, false);
        part(1, 0, true);
        endSection();
    }

    // ---- exports

    private void ask() {
        section("25");
        says("Asks for an export of the board as it is.");
        boxes(1);
        ask(0);
        move(1, 0, 0, 1, 1);
        ask(1);
        make(0);
        make(1);
        exported(0, "b0:0,0,5,5;");
        exported(1, "b0:1,1,5,5;");
        says("Returns its number.");
        ask(0);
        ask(1);
        make(0);
        ask(2);
        says("Throws `IllegalStateException` if there are 10");
        for (int export = 0; export < 10; export++) {
            ask(export);
        }
        ask(STATE);
        for (int export = 0; export < 10; export++) {
            make(export);
        }
        ask(STATE);
        make(-1);
        endSection();
    }

    private void make() {
        section("26");
        says("Makes the export that waits longest.");
        boxes(1);
        ask(0);
        ask(1);
        make(0);
        length(11, 0);
        length(NO_SUCH, 1);
        make(1);
        length(11, 1);
        says("Returns its number; NONE if none waits.");
        make(-1);
        ask(0);
        make(0);
        make(-1);
        ask(1);
        make(1);
        make(-1);
        endSection();
    }

    private void length() {
        section("27");
        says("Returns how many chars the text of an export has.");
        ask(0);
        spell(26, 0);
        label(0, 0, -10, 100, false);
        ask(1);
        make(0);
        make(1);
        length(0, 0);
        length("t0:-10,100,4,2,xxa;".length(), 1);
        says("Throws `IndexOutOfBoundsException` as told");
        length(OUT, 0);
        ask(0);
        make(0);
        for (int export : new int[] {-1, 1, MIN, MAX, 10}) {
            length(OUT, export);
        }
        says("Throws `java` .util.NoSuchElementException if it waits");
        boxes(1);
        ask(0);
        length(NO_SUCH, 0);
        make(0);
        length(11, 0);
        endSection();
    }

    private void charAt() {
        section("28");
        says("Returns a char of the text of an export.");
        boxes(1);
        ask(0);
        make(0);
        charAt((int) ':', 0, 2);
        charAt((int) ',', 0, 4);
        says("- `at`: from 0");
        boxes(1);
        ask(0);
        make(0);
        charAt((int) 'b', 0, 0);
        charAt((int) '0', 0, 1);
        charAt((int) ';', 0, 10);
        says("Throws `IndexOutOfBoundsException` as told");
        charAt(OUT, 0, 0);
        boxes(1);
        ask(0);
        make(0);
        for (int export : new int[] {-1, 1, MIN, MAX, 10}) {
            charAt(OUT, export, 0);
        }
        says("Throws `java` .util.NoSuchElementException if it waits, or has no such char, or at is below 0");
        ask(0);
        boxes(1);
        ask(1);
        make(0);
        charAt(NO_SUCH, 0, 0);
        charAt(NO_SUCH, 1, 0);
        make(1);
        for (int at : new int[] {-1, 11, 12, MIN, MAX}) {
            charAt(NO_SUCH, 1, at);
        }
        endSection();
    }

    private void charAnew() {
        section("29");
        says("Returns the same char, found from the acts that counted when the export was asked for.");
        boxes(1);
        move(1, 1, 0, 8, 9);
        ask(0);
        back(0, 1);
        move(1, 1, 0, 6, 7);
        back(1, 0);
        make(0);
        charAnew((int) ':', 0, 2);
        charAnew((int) '8', 0, 3);
        charAnew((int) '9', 0, 5);
        exported(0, "b0:8,9,5,5;");
        says("- `at`: from 0");
        boxes(1);
        ask(0);
        make(0);
        charAnew((int) 'b', 0, 0);
        charAnew((int) '0', 0, 1);
        charAnew((int) ';', 0, 10);
        says("Throws `IndexOutOfBoundsException` as told");
        charAnew(OUT, 0, 0);
        boxes(1);
        ask(0);
        make(0);
        for (int export : new int[] {-1, 1, MIN, MAX, 10}) {
            charAnew(OUT, export, 0);
        }
        says("Throws `java` .util.NoSuchElementException if it waits, or has no such char, or at is below 0");
        ask(0);
        boxes(1);
        ask(1);
        make(0);
        charAnew(NO_SUCH, 0, 0);
        charAnew(NO_SUCH, 1, 0);
        make(1);
        for (int at : new int[] {-1, 11, 12, MIN, MAX}) {
            charAnew(NO_SUCH, 1, at);
        }
        endSection();
    }
}
