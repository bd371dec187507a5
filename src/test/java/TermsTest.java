import java.io.IOException;

/** What the document says outside the promises, under "Terms" above all: each sentence has a test of its own. */
final class TermsTest extends SentenceChecks {
    private static final int[] KINDS = {WIDTH, HEIGHT, TOUCH, ALIGN, OVER, LEVEL, TIE};

    private TermsTest() throws IOException {
        super("What it is|Shapes|Rules|Acts|Trees of acts|Exports|Exceptions");
    }

    public static void main(String[] args) throws IOException {
        TermsTest test = new TermsTest();
        test.whatItIs();
        test.shapes();
        test.rules();
        test.acts();
        test.trees();
        test.exports();
        test.exceptions();
        test.end("TermsTest");
    }

    // ---- what several tests start from

    /** Two boxes, and a rule on them that was laid and taken back: whether it would hold. */
    private void wouldHold(int due, int kind, int[] a, int[] b) {
        again();
        box(0, 0, a[0], a[1], a[2], a[3]);
        box(1, 0, b[0], b[1], b[2], b[3]);
        lay(0, 1, kind, 0, 1);
        back(0, 1);
        holds(due, 0);
    }

    private void allHold(int rules) {
        for (int rule = 0; rule < rules; rule++) {
            isInForce(1, rule);
            holds(1, rule);
        }
    }

    private void isPart(int shape, int forX, int forY) {
        part(forX, shape, true);
        part(forY, shape, false);
    }

    private void isNumber(int due, int shape, int what) {
        number(due, shape, what);
        numberAnew(due, shape, what);
    }

    private static int[] row(int... numbers) {
        return numbers;
    }

    // ---- ## What it is

    private void whatItIs() {
        section("What it is");
        says("drawers add boxes and labels, move and resize them, and lay rules on two shapes, which move others"
                + " along");
        box(0, 0, 0, 0, 4, 4);
        spell(0);
        label(1, 1, 9, 9, false);
        lay(0, 2, TOUCH, 0, 1);
        move(2, 3, 1, 10, 9);
        resize(2, 0, 0, 7, 4);
        at(0, 6, 0, 7, 4);
        at(1, 13, 9, 2, 2);
        says("so taking one act back can break a rule of another drawer");
        box(0, 0, 0, 0, 4, 4);
        box(1, 1, 9, 9, 4, 4);
        lay(0, 2, ALIGN, 0, 1);
        broken(0);
        back(1, 1);
        broken(1);
        isInForce(0, 0);
        on(0, 1, 0);
        broken(0);
        isInForce(1, 0);
        says("and exports show boards as they were asked for");
        box(0, 0, 0, 0, 4, 4);
        ask(0);
        move(1, 0, 0, 5, 5);
        make(0);
        exported(0, "b0:0,0,4,4;");
        says("An object is used for at most 512 calls after it has been made");
        String text = fullBoard();
        ask(0);
        make(0);
        while (callsLeft() > 1) {
            int at = callsLeft() % text.length();
            charAnew((int) text.charAt(at), 0, at);
        }
        numberAnew(10, 9, 1);
        checks.same("calls left", "0", String.valueOf(callsLeft()));
        endSection();
    }

    /** As many shapes, rules and acts as can be, all of which count; gives the text of an export of that. */
    private String fullBoard() {
        spell(0, 1, 2, 3, 4);
        StringBuilder text = new StringBuilder();
        for (int shape = 0; shape < 10; shape++) {
            label(shape, 0, shape, shape, true);
            text.append("t").append(shape).append(":").append(shape - 1).append(",").append(shape + 1);
            text.append(",10,2,edcba;");
        }
        for (int rule = 0; rule < 12; rule++) {
            lay(rule, 1, TIE, rule % 9, rule % 9 + 1);
            text.append("r").append(rule).append(";");
        }
        for (int act = 22; act < 60; act++) {
            int shape = act % 10;
            move(10, 3, shape, shape + act - 60, shape - act + 60);
        }
        return text.toString();
    }

    // ---- ### Shapes

    private void shapes() {
        section("Shapes");
        says("Shapes are numbered from 0");
        isThere(OUT, 0);
        box(0, 3, 0, 0, 1, 1);
        isThere(1, 0);
        says("at most 10");
        spell(0);
        for (int shape = 0; shape < 9; shape++) {
            box(shape, shape % 4, 0, 0, 1, 1);
        }
        label(9, 0, 0, 0, false);
        box(STATE, 0, 0, 0, 1, 1);
        label(STATE, 0, 0, 0, false);
        isThere(1, 9);
        isThere(OUT, 10);
        says("in the order in which they are added");
        spell(0);
        box(0, 2, 7, 0, 1, 1);
        label(1, 0, 8, 0, false);
        box(2, 1, 9, 0, 1, 1);
        label(3, 0, 10, 0, false);
        askAndMake(0, "b0:7,0,1,1;t1:8,0,2,2,a;b2:9,0,1,1;t3:10,0,2,2,a;");
        says("those that are not there any more with them");
        boxes(1);
        box(1, 1, 0, 0, 1, 1);
        back(0, 1);
        box(2, 1, 0, 0, 1, 1);
        isThere(0, 1);
        isThere(1, 2);
        for (int shape = 3; shape < 10; shape++) {
            box(shape, 1, 0, 0, 1, 1);
            back(0, 1);
        }
        box(STATE, 1, 0, 0, 1, 1);
        says("A shape has a place, x and y, its left lower corner, a width and a height.");
        box(0, 0, 1, 2, 3, 4);
        at(0, 1, 2, 3, 4);
        box(1, 0, 0, 0, 5, 6);
        lay(0, 0, TOUCH, 0, 1);
        lay(1, 0, OVER, 0, 1);
        at(1, 4, 6, 5, 6);
        resize(2, 0, 0, 30, 40);
        at(0, 1, 2, 30, 40);
        at(1, 31, 42, 5, 6);
        labels();
        says("On the board x and y are -999 to 999");
        box(0, 0, -998, -998, 5, 5);
        box(1, 0, -997, -997, 5, 5);
        lay(0, 0, TIE, 0, 1);
        move(2, 1, 0, 998, 998);
        at(1, 999, 999, 5, 5);
        move(STATE, 1, 0, 999, 998);
        move(STATE, 1, 0, 998, 999);
        move(2, 1, 0, -999, -999);
        move(STATE, 1, 1, -999, -998);
        move(STATE, 1, 1, -998, -999);
        at(1, -998, -998, 5, 5);
        says("widths and heights 1 to 99");
        box(0, 0, 0, 0, 1, 99);
        box(1, 0, 0, 0, 50, 50);
        lay(0, 0, WIDTH, 0, 1);
        lay(1, 0, HEIGHT, 0, 1);
        at(1, 0, 0, 1, 99);
        resize(2, 0, 0, 99, 1);
        at(1, 0, 0, 99, 1);
        resize(BAD, 0, 1, 100, 1);
        resize(BAD, 0, 1, 99, 0);
        letters();
        spelledText();
        endSection();
    }

    private void labels() {
        says("A label has a text of 1 to 5 letters");
        label(STATE, 0, 0, 0, false);
        letter(1, 25);
        label(0, 0, 0, 0, false);
        spell(24, 23, 22, 21);
        label(1, 0, 0, 0, false);
        letter(STATE, 20);
        label(2, 0, 0, 0, false);
        askAndMake(0, "t0:0,0,2,2,z;t1:0,0,10,2,zyxwv;t2:0,0,10,2,zyxwv;");
        says("is turned round or not");
        spell(0, 1);
        label(0, 0, 0, 0, false);
        label(1, 0, 0, 0, true);
        askAndMake(0, "t0:0,0,4,2,ab;t1:0,0,4,2,ba;");
        says("and has the width 2 for each letter");
        for (int letters = 1; letters <= 5; letters++) {
            spell(letters < 3 ? 26 : letters);
            label(letters - 1, 0, 0, 0, false);
            at(letters - 1, 0, 0, 2 * letters, 2);
        }
        says("and the height 2 for ever");
        spell(0);
        label(0, 0, 0, 0, false);
        box(1, 0, 0, 0, 4, 4);
        resize(STATE, 0, 0, 2, 1);
        resize(STATE, 0, 0, 2, 3);
        resize(STATE, 0, 0, 1, 2);
        resize(STATE, 0, 0, 3, 2);
        lay(STATE, 0, HEIGHT, 1, 0);
        lay(STATE, 0, WIDTH, 1, 0);
        lay(0, 0, HEIGHT, 0, 1);
        resize(STATE, 0, 1, 4, 4);
        resize(1, 0, 1, 5, 2);
        at(0, 0, 0, 2, 2);
    }

    private void letters() {
        says("There are the letters 0 to 26");
        letter(OUT, -1);
        letter(OUT, 27);
        letter(OUT, MIN);
        letter(OUT, MAX);
        letter(1, 0);
        letter(3, 26);
        says("the letters 0 to 25 are a to z");
        for (int shape = 0; shape < 6; shape++) {
            clear(shape == 0 ? 0 : 5);
            for (int letter = shape * 5; letter < shape * 5 + 5 && letter < 26; letter++) {
                letter(letter - shape * 5 + 1, letter);
            }
            label(shape, 0, 0, 0, false);
        }
        askAndMake(0, "t0:0,0,10,2,abcde;t1:0,0,10,2,fghij;t2:0,0,10,2,klmno;t3:0,0,10,2,pqrst;t4:0,0,10,2,uvwxy;"
                + "t5:0,0,2,2,z;");
        says("the letter 26 is the code point 0x1F4D0, which is a pair of chars in a text (the high surrogate first)");
        letter(2, 26);
        label(0, 0, 0, 0, false);
        letter(3, 0);
        letter(5, 26);
        label(1, 0, 0, 0, true);
        letter(6, 1);
        label(2, 0, 0, 0, true);
        askAndMake(0, "t0:0,0,2,2," + PAIR + ";t1:0,0,6,2," + PAIR + "a" + PAIR + ";t2:0,0,8,2,b" + PAIR + "a" + PAIR
                + ";");
        charAt(0xD83D, 0, 11);
        charAt(0xDCD0, 0, 12);
    }

    private void spelledText() {
        says("One text is spelled at a time");
        spell(0);
        label(0, 0, 0, 0, false);
        spell(1);
        label(1, 3, 0, 0, false);
        askAndMake(0, "t0:0,0,2,2,a;t1:0,0,4,2,ab;");
        says("empty at first");
        label(STATE, 0, 0, 0, false);
        clear(0);
        says("of 5 letters at most");
        for (int letters = 1; letters <= 5; letters++) {
            letter(2 * letters, 26);
        }
        letter(STATE, 26);
        letter(STATE, 0);
        clear(5);
        letter(1, 0);
        says("it stays when it is used");
        spell(3);
        label(0, 0, 0, 0, false);
        label(1, 0, 0, 0, false);
        letter(2, 4);
        clear(2);
        says("and is not part of the board");
        spell(3);
        label(0, 0, 0, 0, false);
        ask(0);
        spell(4);
        back(0, 0);
        letter(3, 5);
        on(0, 0, 0);
        at(0, 0, 0, 2, 2);
        clear(3);
        make(0);
        exported(0, "t0:0,0,2,2,d;");
        askAndMake(1, "t0:0,0,2,2,d;");
    }

    // ---- ### Rules

    private void rules() {
        section("Rules");
        says("Rules are numbered from 0");
        boxes(2);
        isInForce(OUT, 0);
        lay(0, 3, ALIGN, 0, 1);
        isInForce(1, 0);
        isInForce(OUT, 1);
        says("at most 12");
        boxes(2);
        for (int rule = 0; rule < 12; rule++) {
            lay(rule, rule % 4, rule % 2 == 0 ? ALIGN : LEVEL, 0, 1);
        }
        lay(STATE, 0, WIDTH, 0, 1);
        isInForce(1, 11);
        isInForce(OUT, 12);
        says("in the order in which they are laid");
        boxes(3);
        lay(0, 2, ALIGN, 0, 1);
        lay(1, 0, LEVEL, 2, 1);
        lay(2, 1, HEIGHT, 0, 2);
        drop(2, 3, 1);
        isInForce(1, 0);
        isInForce(0, 1);
        isInForce(1, 2);
        at(1, 0, 20, 5, 5);
        says("those that are not in force with them");
        boxes(2);
        box(2, 1, 40, 40, 5, 5);
        lay(0, 2, ALIGN, 0, 1);
        lay(1, 2, LEVEL, 1, 2);
        lay(2, 3, WIDTH, 0, 1);
        drop(2, 3, 0);
        back(0, 3);
        back(0, 3);
        back(1, 1);
        lay(3, 3, HEIGHT, 0, 1);
        for (int rule = 4; rule < 12; rule++) {
            lay(rule, 3, HEIGHT, 0, 1);
            back(1, 3);
        }
        lay(STATE, 3, HEIGHT, 0, 1);
        says("A rule is for a shape a and another one b");
        boxes(2);
        lay(BAD, 0, ALIGN, 1, 1);
        lay(0, 1, TOUCH, 0, 1);
        at(1, 5, 10, 5, 5);
        back(0, 1);
        lay(1, 1, TOUCH, 1, 0);
        at(0, 15, 0, 5, 5);
        ruleKinds();
        ties();
        parts();
        endSection();
    }

    /** When a rule of each kind holds, and what is one beside that, or the other way round. */
    private void ruleKinds() {
        int[] a = row(3, 40, 5, 6);
        says("WIDTH: both have the same width");
        wouldHold(1, WIDTH, a, row(50, 70, 5, 9));
        wouldHold(0, WIDTH, a, row(3, 40, 4, 6));
        wouldHold(0, WIDTH, a, row(3, 40, 6, 5));
        says("HEIGHT: both have the same height");
        wouldHold(1, HEIGHT, a, row(50, 70, 9, 6));
        wouldHold(0, HEIGHT, a, row(3, 40, 5, 7));
        wouldHold(0, HEIGHT, a, row(3, 40, 6, 5));
        says("TOUCH: x of b is x of a and the width of a, together");
        wouldHold(1, TOUCH, a, row(8, -70, 9, 9));
        wouldHold(0, TOUCH, a, row(7, 40, 5, 6));
        wouldHold(0, TOUCH, a, row(9, 40, 5, 6));
        wouldHold(0, TOUCH, a, row(10, 40, 7, 6));
        wouldHold(0, TOUCH, a, row(-4, 40, 7, 6));
        wouldHold(0, TOUCH, a, row(3, 46, 5, 6));
        says("ALIGN: both have the same x");
        wouldHold(1, ALIGN, a, row(3, -70, 9, 9));
        wouldHold(0, ALIGN, a, row(2, 40, 6, 6));
        wouldHold(0, ALIGN, a, row(4, 40, 5, 6));
        says("OVER: y of b is y of a and the height of a, together");
        wouldHold(1, OVER, a, row(-70, 46, 9, 9));
        wouldHold(0, OVER, a, row(3, 45, 5, 6));
        wouldHold(0, OVER, a, row(3, 47, 5, 6));
        wouldHold(0, OVER, a, row(3, 49, 5, 9));
        wouldHold(0, OVER, a, row(3, 31, 5, 9));
        wouldHold(0, OVER, a, row(8, 40, 5, 6));
        says("LEVEL: both have the same y");
        wouldHold(1, LEVEL, a, row(-70, 40, 9, 9));
        wouldHold(0, LEVEL, a, row(3, 39, 5, 7));
        wouldHold(0, LEVEL, a, row(3, 41, 5, 6));
    }

    private void ties() {
        says("TIE: x of b less x of a, and y of b less y of a, are what they were when the rule was laid");
        boxes(2);
        lay(0, 1, TIE, 0, 1);
        holds(1, 0);
        move(2, 2, 1, 11, 7);
        at(0, 1, -3, 5, 5);
        move(2, 2, 0, 1, 6);
        at(1, 11, 16, 5, 5);
        resize(1, 2, 0, 9, 9);
        resize(1, 2, 1, 8, 8);
        at(0, 1, 6, 9, 9);
        at(1, 11, 16, 8, 8);
        holds(1, 0);
        twelveTies();
        says("(each time that this is done)");
        boxes(2);
        move(1, 1, 1, 30, 40);
        lay(0, 2, TIE, 0, 1);
        at(1, 30, 40, 5, 5);
        back(0, 1);
        holds(1, 0);
        move(2, 3, 0, 1, 2);
        at(1, 11, 12, 5, 5);
        on(0, 1, 0);
        at(1, 31, 42, 5, 5);
        says("Rules that are in force hold.");
        box(0, 0, 0, 0, 5, 6);
        box(1, 0, 20, 30, 7, 8);
        box(2, 0, -40, -50, 9, 9);
        box(3, 0, 70, 7, 1, 2);
        int[][] laid = {{WIDTH, 0, 1}, {HEIGHT, 1, 2}, {TOUCH, 2, 0}, {OVER, 1, 2}, {ALIGN, 3, 0}, {LEVEL, 0, 3},
            {TIE, 1, 2}, {TIE, 3, 0}};
        for (int rule = 0; rule < laid.length; rule++) {
            lay(rule, 1, laid[rule][0], laid[rule][1], laid[rule][2]);
            allHold(rule + 1);
        }
        move(4, 2, 3, 12, 13);
        allHold(laid.length);
        resize(3, 2, 2, 21, 8);
        allHold(laid.length);
        resize(2, 2, 0, 14, 15);
        allHold(laid.length);
    }

    private void twelveTies() {
        again();
        for (int shape = 0; shape < 10; shape++) {
            box(shape, 0, shape * shape, -3 * shape, 5, 5);
        }
        for (int rule = 0; rule < 12; rule++) {
            lay(rule, 1, TIE, rule % 9, rule < 9 ? rule + 1 : rule - 7);
        }
        move(10, 2, 9, 181, -127);
        resize(1, 2, 4, 9, 9);
        allHold(12);
        for (int shape = 0; shape < 10; shape++) {
            isNumber(100 + shape * shape, shape, 0);
            isNumber(-100 - 3 * shape, shape, 1);
        }
        move(10, 3, 0, -1, 1);
        back(0, 3);
        allHold(12);
        number(100, 0, 0);
    }

    private void parts() {
        says("TOUCH, ALIGN and TIE join two shapes for x; OVER, LEVEL and TIE for y.");
        for (int kind : KINDS) {
            again();
            boxes(2);
            lay(0, 1, kind, 1, 0);
            boolean isForX = kind == TOUCH || kind == ALIGN || kind == TIE;
            boolean isForY = kind == OVER || kind == LEVEL || kind == TIE;
            isPart(0, isForX ? 2 : 1, isForY ? 2 : 1);
            isPart(1, isForX ? 2 : 1, isForY ? 2 : 1);
        }
        says("A part for x is a set of shapes on the board, as large as can be");
        boxes(8);
        lay(0, 1, ALIGN, 4, 1);
        lay(1, 1, TOUCH, 7, 4);
        lay(2, 1, TIE, 1, 2);
        lay(3, 1, ALIGN, 0, 6);
        lay(4, 1, ALIGN, 5, 6);
        int[] sizes = {3, 4, 4, 1, 4, 3, 3, 4};
        for (int shape = 0; shape < sizes.length; shape++) {
            part(sizes[shape], shape, true);
        }
        lay(5, 1, TOUCH, 0, 2);
        part(7, 7, true);
        part(7, 5, true);
        part(1, 3, true);
        says("over rules in force that join for x");
        boxes(3);
        lay(0, 1, ALIGN, 0, 1);
        lay(1, 2, ALIGN, 1, 2);
        lay(2, 2, OVER, 0, 2);
        lay(3, 2, WIDTH, 0, 2);
        part(3, 2, true);
        drop(3, 3, 0);
        part(1, 0, true);
        part(2, 2, true);
        back(0, 3);
        back(0, 1);
        part(1, 0, true);
        part(2, 1, true);
        says("and in the same way for y");
        boxes(4);
        lay(0, 1, OVER, 3, 2);
        lay(1, 1, LEVEL, 0, 2);
        lay(2, 1, ALIGN, 0, 1);
        lay(3, 1, HEIGHT, 2, 1);
        part(3, 0, false);
        part(3, 3, false);
        part(1, 1, false);
        drop(3, 1, 1);
        part(2, 3, false);
        part(1, 0, false);
        says("a shape without such rules is a part by itself");
        boxes(3);
        box(3, 3, 90, 90, 5, 5);
        lay(0, 1, WIDTH, 0, 1);
        lay(1, 1, HEIGHT, 0, 1);
        lay(2, 1, TIE, 2, 3);
        isPart(0, 1, 1);
        isPart(2, 2, 2);
        back(1, 3);
        isPart(2, 1, 1);
        classes();
    }

    private void classes() {
        says("A class of widths is made in the same way by WIDTH");
        boxes(5);
        lay(0, 1, WIDTH, 3, 1);
        lay(1, 1, WIDTH, 0, 1);
        lay(2, 1, HEIGHT, 1, 2);
        lay(3, 1, TIE, 1, 4);
        resize(3, 2, 3, 8, 5);
        at(0, 0, 0, 8, 5);
        at(1, 10, 10, 8, 5);
        at(2, 20, 20, 5, 5);
        at(4, 40, 40, 5, 5);
        drop(3, 1, 0);
        resize(2, 2, 0, 7, 5);
        at(1, 10, 10, 7, 5);
        at(3, 30, 30, 8, 5);
        says("one of heights by HEIGHT");
        boxes(5);
        lay(0, 1, HEIGHT, 3, 1);
        lay(1, 1, HEIGHT, 0, 1);
        lay(2, 1, WIDTH, 1, 2);
        lay(3, 1, LEVEL, 1, 4);
        resize(3, 2, 3, 5, 8);
        at(0, 0, 0, 5, 8);
        at(1, 10, 10, 5, 8);
        at(2, 20, 20, 5, 5);
        at(4, 40, 10, 5, 5);
        drop(3, 1, 0);
        resize(2, 2, 0, 5, 7);
        at(1, 10, 10, 5, 7);
        at(3, 30, 30, 5, 8);
    }

    // ---- ### Acts

    private void acts() {
        section("Acts");
        says("Acts are numbered from 0, at most 60");
        boxes(1);
        stands(0, 0);
        box(1, 1, 0, 0, 5, 5);
        lay(0, 1, ALIGN, 0, 1);
        spell(0);
        for (int act = 3; act < 60; act++) {
            move(2, 2, 0, act, 0);
            stands(act, 2);
        }
        noActMore();
        back(0, 2);
        back(0, 2);
        noActMore();
        acts(60);
        counts(0, 59);
        counts(OUT, 60);
        says("each is by one of the drawers 0 to 3");
        for (int drawer = 0; drawer < 4; drawer++) {
            box(drawer, drawer, 0, 0, 5, 5);
            stands(drawer, drawer);
        }
        box(OUT, -1, 0, 0, 5, 5);
        box(OUT, 4, 0, 0, 5, 5);
        says("What an act does to the board:");
        acts(0);
        boxes(2);
        acts(2);
        isThere(1, 1);
        says("- A box or a label is added, at its place.");
        box(0, 0, -7, 8, 5, 5);
        spell(0);
        box(1, 1, -7, 8, 5, 5);
        label(2, 2, -6, 9, false);
        at(0, -7, 8, 5, 5);
        at(1, -7, 8, 5, 5);
        at(2, -6, 9, 2, 2);
        says("its part for x is shifted so that s comes to x, its part for y so that s comes to y");
        boxes(4);
        lay(0, 1, TOUCH, 0, 1);
        lay(1, 1, OVER, 2, 0);
        move(3, 2, 0, -100, 100);
        at(0, -100, 100, 5, 5);
        at(1, -95, 10, 5, 5);
        at(2, 20, 95, 5, 5);
        at(3, 30, 30, 5, 5);
        says("- A shape s is given a size, a label none but that which it has");
        spell(0, 1);
        label(0, 0, 3, 3, false);
        box(1, 0, 0, 0, 5, 5);
        resize(0, 1, 0, 4, 2);
        acts(3);
        resize(STATE, 1, 0, 5, 2);
        resize(STATE, 1, 0, 4, 3);
        resize(STATE, 1, 0, 3, 2);
        resize(STATE, 1, 0, 4, 1);
        resize(1, 1, 1, 6, 7);
        at(0, 3, 3, 4, 2);
        at(1, 0, 0, 6, 7);
        says("all of its class of widths get the width, all of its class of heights get the height");
        boxes(4);
        lay(0, 1, WIDTH, 0, 1);
        lay(1, 1, HEIGHT, 2, 1);
        resize(3, 2, 1, 8, 9);
        at(0, 0, 0, 8, 5);
        at(1, 10, 10, 8, 9);
        at(2, 20, 20, 5, 9);
        at(3, 30, 30, 5, 5);
        says("Then places are settled, the lead being s.");
        boxes(2);
        lay(0, 1, TOUCH, 0, 1);
        lay(1, 1, OVER, 0, 1);
        lay(2, 1, WIDTH, 0, 1);
        lay(3, 1, HEIGHT, 0, 1);
        resize(2, 2, 1, 7, 8);
        at(0, -2, -3, 7, 8);
        at(1, 5, 5, 7, 8);
        resize(2, 2, 0, 6, 9);
        at(0, -2, -3, 6, 9);
        at(1, 4, 6, 6, 9);
        layingRules();
        settledPlaces();
        whatCannotBeDone();
        endSection();
    }

    private void noActMore() {
        box(STATE, 0, 0, 0, 5, 5);
        label(STATE, 0, 0, 0, false);
        move(STATE, 0, 0, 0, 0);
        resize(STATE, 0, 0, 5, 5);
        lay(STATE, 0, ALIGN, 0, 1);
        drop(STATE, 0, 0);
    }

    private void layingRules() {
        says("- A rule is laid on a and b.");
        boxes(2);
        isInForce(OUT, 0);
        lay(0, 1, TIE, 1, 0);
        acts(3);
        holds(1, 0);
        says("With WIDTH the class of widths of b gets the width of a");
        for (int shape = 0; shape < 4; shape++) {
            box(shape, 0, shape * 10, 0, shape + 3, 40);
        }
        lay(0, 1, WIDTH, 0, 1);
        lay(1, 1, WIDTH, 2, 3);
        lay(2, 1, WIDTH, 3, 1);
        int[] widths = {5, 5, 5, 5};
        for (int shape = 0; shape < 4; shape++) {
            at(shape, shape * 10, 0, widths[shape], 40);
        }
        lay(3, 1, WIDTH, 0, 2);
        says("with HEIGHT the class of heights of b the height of a");
        for (int shape = 0; shape < 4; shape++) {
            box(shape, 0, 0, shape * 10, 40, shape + 3);
        }
        lay(0, 1, HEIGHT, 1, 0);
        lay(1, 1, HEIGHT, 2, 3);
        lay(2, 1, HEIGHT, 1, 3);
        for (int shape = 0; shape < 4; shape++) {
            at(shape, 0, shape * 10, 40, 4);
        }
        lay(3, 1, HEIGHT, 2, 0);
        says("then places are settled, the lead being a");
        boxes(2);
        resize(1, 0, 1, 9, 8);
        lay(0, 1, TOUCH, 0, 1);
        lay(1, 1, OVER, 0, 1);
        lay(2, 1, WIDTH, 1, 0);
        at(0, -4, 0, 9, 5);
        at(1, 5, 5, 9, 8);
        lay(3, 1, HEIGHT, 1, 0);
        at(0, -4, -3, 9, 8);
        at(1, 5, 5, 9, 8);
        says("if a and b are in one part for x, or y, by which this rule would join them, it has to hold already");
        inOnePart();
        says("otherwise that part of b is shifted so that it holds");
        boxes(4);
        lay(0, 1, ALIGN, 0, 1);
        lay(1, 1, TOUCH, 3, 2);
        at(2, 35, 20, 5, 5);
        lay(2, 1, TOUCH, 1, 2);
        at(0, 0, 0, 5, 5);
        at(1, 0, 10, 5, 5);
        at(2, 5, 20, 5, 5);
        at(3, 0, 30, 5, 5);
        drop(2, 1, 2);
        lay(3, 1, OVER, 2, 3);
        lay(4, 1, LEVEL, 0, 3);
        at(3, 0, 0, 5, 5);
        at(2, 5, -5, 5, 5);
        at(0, 0, 0, 5, 5);
        at(1, 0, 10, 5, 5);
        says("Then it is in force.");
        boxes(2);
        for (int rule = 0; rule < KINDS.length; rule++) {
            again();
            boxes(2);
            lay(0, 1, KINDS[rule], 0, 1);
            isInForce(1, 0);
            askAndMake(0, new String[] {"b0:0,0,5,5;b1:10,10,5,5;r0;", "b0:0,0,5,5;b1:10,10,5,5;r0;",
                "b0:0,0,5,5;b1:5,10,5,5;r0;", "b0:0,0,5,5;b1:0,10,5,5;r0;", "b0:0,0,5,5;b1:10,5,5,5;r0;",
                "b0:0,0,5,5;b1:10,0,5,5;r0;", "b0:0,0,5,5;b1:10,10,5,5;r0;"}[rule]);
        }
        says("- A rule that is in force is dropped.");
        boxes(2);
        lay(0, 1, ALIGN, 0, 1);
        drop(0, 2, 0);
        isInForce(0, 0);
        at(1, 0, 10, 5, 5);
        move(1, 2, 0, 7, 7);
        at(1, 0, 10, 5, 5);
    }

    private void inOnePart() {
        boxes(3);
        lay(0, 1, ALIGN, 0, 1);
        lay(1, 1, TOUCH, 1, 2);
        lay(2, 1, TOUCH, 0, 2);
        lay(STATE, 1, TOUCH, 2, 0);
        lay(STATE, 1, ALIGN, 0, 2);
        lay(STATE, 1, TOUCH, 1, 0);
        lay(3, 1, ALIGN, 1, 0);
        lay(4, 1, TIE, 2, 0);
        at(0, 0, 0, 5, 5);
        at(2, 5, 20, 5, 5);
        lay(STATE, 1, LEVEL, 0, 2);
        lay(STATE, 1, OVER, 2, 0);
        lay(5, 1, LEVEL, 0, 1);
        at(1, 0, 0, 5, 5);
        lay(STATE, 1, OVER, 1, 2);
        lay(6, 1, LEVEL, 1, 0);
        drop(6, 1, 4);
        lay(7, 1, OVER, 1, 2);
        at(2, 5, 5, 5, 5);
        lay(8, 1, OVER, 0, 2);
    }

    private void settledPlaces() {
        says("in each part for x in which some shape has got another width, the lead stays at its x, if it is in it");
        boxes(4);
        lay(0, 1, TOUCH, 0, 1);
        lay(1, 1, TOUCH, 1, 2);
        lay(2, 1, WIDTH, 1, 0);
        resize(3, 2, 1, 8, 5);
        at(0, -3, 0, 8, 5);
        at(1, 5, 10, 8, 5);
        at(2, 13, 20, 5, 5);
        at(3, 30, 30, 5, 5);
        says("otherwise the shape with the lowest number does");
        boxes(6);
        lay(0, 1, TOUCH, 2, 0);
        lay(1, 1, TOUCH, 3, 1);
        lay(2, 1, TOUCH, 1, 5);
        lay(3, 1, WIDTH, 4, 2);
        lay(4, 1, WIDTH, 2, 3);
        at(0, 25, 0, 5, 5);
        at(1, 35, 10, 5, 5);
        at(5, 40, 50, 5, 5);
        resize(3, 2, 4, 9, 5);
        at(0, 25, 0, 5, 5);
        at(2, 16, 20, 9, 5);
        at(1, 35, 10, 5, 5);
        at(3, 26, 30, 9, 5);
        at(5, 40, 50, 5, 5);
        at(4, 40, 40, 9, 5);
        says("and all others of the part get the x that the rules tell from there");
        boxes(6);
        lay(0, 1, TIE, 3, 1);
        lay(1, 1, ALIGN, 5, 3);
        lay(2, 1, TOUCH, 0, 1);
        lay(3, 1, TOUCH, 2, 0);
        lay(4, 1, ALIGN, 2, 4);
        resize(4, 2, 0, 7, 5);
        askAndMake(0, "b0:25,0,7,5;b1:32,10,5,5;b2:20,20,5,5;b3:52,30,5,5;b4:20,40,5,5;b5:52,50,5,5;r0;r1;r2;r3;r4;");
        resize(5, 2, 2, 1, 5);
        askAndMake(1, "b0:21,0,7,5;b1:28,10,5,5;b2:20,20,1,5;b3:48,30,5,5;b4:20,40,5,5;b5:48,50,5,5;r0;r1;r2;r3;r4;");
        says("in each part for y in which some shape has got another height, in the same way");
        boxes(6);
        lay(0, 1, OVER, 2, 0);
        lay(1, 1, OVER, 3, 1);
        lay(2, 1, LEVEL, 1, 5);
        lay(3, 1, HEIGHT, 4, 2);
        lay(4, 1, HEIGHT, 2, 3);
        resize(3, 2, 4, 5, 9);
        askAndMake(0, "b0:0,25,5,5;b1:10,35,5,5;b2:20,16,5,9;b3:30,26,5,9;b4:40,40,5,9;b5:50,35,5,5;r0;r1;r2;r3;r4;");
        resize(5, 2, 3, 5, 2);
        askAndMake(1, "b0:0,25,5,5;b1:10,28,5,5;b2:20,23,5,2;b3:30,26,5,2;b4:40,40,5,2;b5:50,28,5,5;r0;r1;r2;r3;r4;");
    }

    private void whatCannotBeDone() {
        says("An act cannot be done if a shape is not there");
        boxes(2);
        box(2, 1, 50, 50, 5, 5);
        back(0, 1);
        move(STATE, 2, 2, 0, 0);
        resize(STATE, 2, 2, 5, 5);
        lay(STATE, 2, ALIGN, 0, 2);
        lay(STATE, 2, ALIGN, 2, 0);
        on(0, 1, 0);
        move(1, 2, 2, 60, 60);
        resize(1, 2, 2, 6, 6);
        lay(0, 2, ALIGN, 0, 2);
        lay(1, 2, LEVEL, 2, 1);
        back(4, 1);
        for (int act = 3; act < 7; act++) {
            isVoid(1, act);
        }
        at(0, 0, 0, 5, 5);
        at(1, 10, 10, 5, 5);
        on(0, 1, 0);
        at(2, 0, 60, 6, 6);
        says("or a rule that is to be dropped is not in force");
        boxes(2);
        lay(0, 1, ALIGN, 0, 1);
        drop(0, 2, 0);
        drop(STATE, 3, 0);
        back(0, 2);
        drop(0, 3, 0);
        on(1, 2, 0);
        isVoid(0, 3);
        isVoid(1, 4);
        back(0, 2);
        isVoid(0, 4);
        back(1, 1);
        isVoid(1, 4);
        drop(STATE, 2, 0);
        says("or a label would get another size");
        spell(0, 1);
        label(0, 0, 0, 0, false);
        box(1, 0, 9, 9, 5, 5);
        lay(STATE, 1, WIDTH, 1, 0);
        lay(STATE, 1, HEIGHT, 1, 0);
        lay(0, 1, WIDTH, 0, 1);
        resize(STATE, 2, 1, 6, 5);
        back(0, 1);
        resize(1, 2, 1, 6, 5);
        on(1, 1, 0);
        isVoid(1, 3);
        at(1, 9, 9, 4, 5);
        says("or rules would tell two places of a shape");
        twoPlaces(0);
        again();
        twoPlaces(1);
        says("or a number would leave its range");
        highestPlace(0);
        again();
        highestPlace(1);
        again();
        lowestPlace(0);
        again();
        lowestPlace(1);
        says("then it changes nothing on the board");
        changesNothing();
    }

    // Tests for x and for y alike: the axis is 0 for x, 1 for y.

    private void boxAt(int shape, int axis, int place, int size) {
        box(shape, 0, axis == 0 ? place : 0, axis == 0 ? 0 : place, axis == 0 ? size : 5, axis == 0 ? 5 : size);
    }

    private void moveTo(Object due, int axis, int shape, int place) {
        move(due, 2, shape, axis == 0 ? place : 0, axis == 0 ? 0 : place);
    }

    private void sizeTo(Object due, int axis, int shape, int size) {
        resize(due, 2, shape, axis == 0 ? size : 5, axis == 0 ? 5 : size);
    }

    private void layNext(Object due, int axis, int shape, int other) {
        lay(due, 1, axis == 0 ? TOUCH : OVER, shape, other);
    }

    private void layAlike(Object due, int axis, int shape, int other) {
        lay(due, 1, axis == 0 ? WIDTH : HEIGHT, shape, other);
    }

    private void twoPlaces(int axis) {
        boxAt(0, axis, 0, 5);
        boxAt(1, axis, 0, 5);
        boxAt(2, axis, 0, 5);
        layNext(0, axis, 0, 1);
        layNext(1, axis, 1, 2);
        lay(2, 1, TIE, 0, 2);
        sizeTo(STATE, axis, 0, 6);
        sizeTo(STATE, axis, 1, 4);
        sizeTo(1, axis, 2, 6);
        layAlike(STATE, axis, 2, 1);
        sizeTo(1, 1 - axis, 0, 9);
        back(0, 1);
        sizeTo(3, axis, 0, 6);
        on(1, 1, 0);
        isVoid(1, 8);
        isNumber(5, 0, axis + 2);
        isNumber(5, 1, axis);
        isNumber(10, 2, axis);
    }

    private void highestPlace(int axis) {
        boxAt(0, axis, 989, 10);
        boxAt(1, axis, 0, 10);
        boxAt(2, axis, 0, 11);
        layNext(0, axis, 0, 1);
        isNumber(999, 1, axis);
        moveTo(STATE, axis, 0, 990);
        sizeTo(STATE, axis, 0, 11);
        layAlike(STATE, axis, 2, 0);
        layNext(STATE, axis, 1, 2);
        sizeTo(2, axis, 0, 9);
        sizeTo(2, axis, 0, 10);
        back(0, 1);
        moveTo(1, axis, 0, 990);
        on(1, 1, 0);
        isVoid(1, 6);
        isNumber(989, 0, axis);
        isNumber(999, 1, axis);
    }

    private void lowestPlace(int axis) {
        boxAt(0, axis, -989, 10);
        boxAt(1, axis, 0, 10);
        boxAt(2, axis, -999, 9);
        layNext(0, axis, 0, 1);
        layAlike(1, axis, 0, 1);
        moveTo(2, axis, 1, -989);
        isNumber(-999, 0, axis);
        moveTo(STATE, axis, 1, -990);
        sizeTo(STATE, axis, 1, 11);
        layNext(STATE, axis, 2, 1);
        sizeTo(2, axis, 1, 9);
        back(0, 1);
        back(0, 1);
        moveTo(1, axis, 1, -990);
        on(1, 1, 0);
        isVoid(1, 7);
        isNumber(-999, 0, axis);
        isNumber(-989, 1, axis);
    }

    private void changesNothing() {
        box(0, 0, 0, 0, 5, 5);
        box(1, 0, 1, 1, 5, 5);
        box(2, 0, 2, 990, 5, 5);
        spell(0);
        label(3, 0, 3, 3, false);
        box(4, 0, 500, 20, 5, 5);
        lay(0, 0, ALIGN, 0, 1);
        lay(1, 1, TIE, 1, 2);
        lay(2, 3, HEIGHT, 3, 0);
        move(STATE, 2, 0, 998, 0);
        move(STATE, 2, 1, 5, 11);
        resize(STATE, 2, 0, 6, 3);
        lay(STATE, 2, LEVEL, 4, 1);
        lay(STATE, 2, WIDTH, 0, 3);
        String text = "b0:0,0,5,2;b1:0,1,5,5;b2:2,990,5,5;t3:3,3,2,2,a;b4:500,20,5,5;r0;r1;r2;";
        askAndMake(0, text);
        back(0, 1);
        move(2, 2, 1, 5, 11);
        back(0, 3);
        resize(1, 2, 0, 6, 3);
        on(1, 1, 0);
        on(2, 3, 0);
        askAndMake(1, text);
    }

    // ---- ### Trees of acts

    private void trees() {
        section("Trees of acts");
        says("Each drawer has a tree, whose root is no act, and stands at a node of it, the root at first.");
        for (int drawer = 0; drawer < 4; drawer++) {
            stands(-1, drawer);
            back(STATE, drawer);
            on(OUT, drawer, 0);
        }
        box(0, 2, 0, 0, 5, 5);
        for (int drawer = 0; drawer < 4; drawer++) {
            stands(drawer == 2 ? 0 : -1, drawer);
            branches(0, drawer);
        }
        back(0, 2);
        stands(-1, 2);
        for (int drawer = 0; drawer < 4; drawer++) {
            branches(drawer == 2 ? 1 : 0, drawer);
            below(drawer == 2 ? 1 : 0, drawer);
        }
        says("An act that is made hangs below the node at which its drawer stands, behind all that hang there,"
                + " and the drawer stands at it then.");
        boxes(1);
        move(1, 1, 0, 1, 0);
        for (int act = 2; act < 5; act++) {
            move(1, 1, 0, act, 0);
            stands(act, 1);
            branches(0, 1);
            back(0, 1);
            branches(act - 1, 1);
        }
        on(0, 1, 0);
        move(1, 1, 0, 5, 0);
        back(0, 1);
        branches(1, 1);
        stands(2, 1);
        back(0, 1);
        branches(3, 1);
        below(4, 1);
        for (int branch = 0; branch < 3; branch++) {
            on(0, 1, branch);
            stands(branch + 2, 1);
            back(0, 1);
        }
        says("Going back leads to the node above, going on to one of those below.");
        boxes(1);
        move(1, 1, 0, 1, 0);
        move(1, 1, 0, 2, 0);
        move(1, 2, 0, 3, 0);
        back(0, 1);
        stands(1, 1);
        stands(3, 2);
        back(0, 1);
        stands(-1, 1);
        on(0, 1, 0);
        stands(1, 1);
        on(OUT, 1, 1);
        on(0, 1, 0);
        stands(2, 1);
        on(OUT, 1, 0);
        whatCounts();
        endSection();
    }

    private void whatCounts() {
        says("The acts of a drawer that count are those from the root to where the drawer stands.");
        boxes(1);
        move(1, 1, 0, 1, 0);
        move(1, 1, 0, 2, 0);
        back(0, 1);
        move(1, 1, 0, 3, 0);
        move(1, 2, 0, 4, 0);
        count("11011");
        back(0, 1);
        count("11001");
        on(0, 1, 0);
        count("11101");
        back(0, 2);
        count("11100");
        back(0, 1);
        back(0, 1);
        count("10000");
        says("The board is what all acts that count, of all drawers, make of an empty one, by their numbers");
        boxes(1);
        move(1, 1, 0, 10, 0);
        move(1, 2, 0, 20, 0);
        back(0, 1);
        number(20, 0, 0);
        on(0, 1, 0);
        number(20, 0, 0);
        back(0, 2);
        number(10, 0, 0);
        back(0, 1);
        number(0, 0, 0);
        on(0, 2, 0);
        on(0, 1, 0);
        number(20, 0, 0);
        back(2, 0);
        isThere(0, 0);
        says("where those that cannot be done by then are void: they do nothing");
        boxes(2);
        lay(0, 1, TIE, 0, 1);
        back(0, 1);
        move(1, 2, 0, 999, 0);
        on(1, 1, 0);
        isVoid(1, 3);
        at(0, 0, 0, 5, 5);
        at(1, 10, 10, 5, 5);
        drop(0, 3, 0);
        isVoid(1, 3);
        at(0, 0, 0, 5, 5);
        back(2, 0);
        isVoid(0, 1);
        isVoid(1, 2);
        isVoid(0, 3);
        isVoid(1, 4);
    }

    private void count(String wanted) {
        for (int act = 0; act < wanted.length(); act++) {
            counts(wanted.charAt(act) - '0', act);
        }
    }

    // ---- ### Exports

    private void exports() {
        section("Exports");
        says("Exports are numbered from 0, at most 10.");
        length(OUT, 0);
        for (int export = 0; export < 10; export++) {
            ask(export);
        }
        ask(STATE);
        make(0);
        ask(STATE);
        length(OUT, 10);
        says("One is asked for at any time, waits, and is made later, in the order of asking");
        ask(0);
        length(NO_SUCH, 0);
        boxes(1);
        ask(1);
        make(0);
        exported(0, "");
        length(NO_SUCH, 1);
        charAt(NO_SUCH, 1, 0);
        charAnew(NO_SUCH, 1, 0);
        move(1, 0, 0, 1, 2);
        ask(2);
        make(1);
        length(NO_SUCH, 2);
        make(2);
        exported(1, "b0:0,0,5,5;");
        exported(2, "b0:1,2,5,5;");
        make(-1);
        says("it shows the board as it was when it was asked for");
        boxes(2);
        lay(0, 1, ALIGN, 0, 1);
        ask(0);
        back(0, 1);
        ask(1);
        back(0, 0);
        back(0, 0);
        ask(2);
        spell(0);
        label(2, 0, 7, 7, false);
        ask(3);
        for (int export = 0; export < 4; export++) {
            make(export);
        }
        on(1, 1, 0);
        exported(0, "b0:0,0,5,5;b1:0,10,5,5;r0;");
        exported(1, "b0:0,0,5,5;b1:10,10,5,5;");
        exported(2, "");
        exported(3, "t2:7,7,2,2,a;");
        exportTexts();
        endSection();
    }

    private void exportTexts() {
        says("Its text: for each shape that is there, by numbers, b and the number for a box, t and the number for a"
                + " label, then a colon, x, a comma, y, a comma, the width, a comma, the height, and, for a label, a comma"
                + " and its text");
        box(0, 1, 1, 2, 3, 4);
        spell(1, 0);
        label(1, 0, 5, 6, false);
        box(2, 2, 7, 8, 9, 10);
        askAndMake(0, "b0:1,2,3,4;t1:5,6,4,2,ba;b2:7,8,9,10;");
        back(0, 0);
        askAndMake(1, "b0:1,2,3,4;b2:7,8,9,10;");
        says("the letters in the opposite order if it is turned round; and a semicolon");
        spell(0, 1, 26, 2, 3);
        label(0, 0, 0, 0, true);
        label(1, 0, 0, 0, false);
        askAndMake(0, "t0:0,0,10,2,dc" + PAIR + "ba;t1:0,0,10,2,ab" + PAIR + "cd;");
        says("then for each rule in force, by numbers, r, the number and a semicolon");
        boxes(2);
        lay(0, 1, ALIGN, 0, 1);
        for (int rule = 1; rule < 12; rule++) {
            lay(rule, 2, ALIGN, 0, 1);
        }
        drop(11, 3, 5);
        askAndMake(0, "b0:0,0,5,5;b1:0,10,5,5;r0;r1;r2;r3;r4;r6;r7;r8;r9;r10;r11;");
        back(0, 1);
        askAndMake(1, "b0:0,0,5,5;b1:0,10,5,5;r1;r2;r3;r4;r6;r7;r8;r9;r10;r11;");
        back(12, 0);
        askAndMake(2, "b0:0,0,5,5;");
        says("Numbers are decimal, with a minus sign ahead of those below 0.");
        int[] places = {0, 1, -1, 9, -10, 10, 99, -100, 100, -999};
        int[] sizes = {1, 9, 10, 11, 19, 20, 90, 98, 99, 5};
        StringBuilder text = new StringBuilder();
        for (int shape = 0; shape < 10; shape++) {
            box(shape, 0, places[shape], -places[shape], sizes[shape], 100 - sizes[shape]);
            text.append("b").append(shape).append(":").append(places[shape]).append(",").append(-places[shape]);
            text.append(",").append(sizes[shape]).append(",").append(100 - sizes[shape]).append(";");
        }
        askAndMake(0, text.toString());
        longestText();
    }

    private void longestText() {
        again();
        spell(26, 26, 26, 26, 26);
        StringBuilder text = new StringBuilder();
        for (int shape = 0; shape < 10; shape++) {
            label(shape, 0, -999, -999, true);
            text.append("t").append(shape).append(":-999,-999,10,2,").append(PAIR.repeat(5)).append(";");
        }
        for (int rule = 0; rule < 12; rule++) {
            lay(rule, 1, ALIGN, 8, 9);
            text.append("r").append(rule).append(";");
        }
        askAndMake(0, text.toString());
        askAndMake(1, text.toString());
    }

    // ---- ### Exceptions

    private void exceptions() {
        section("Exceptions");
        says("IndexOutOfBoundsException: there is no such drawer, shape, rule, act, branch, export or letter");
        boxes(2);
        lay(0, 0, ALIGN, 0, 1);
        move(1, 0, 0, 0, 7);
        back(0, 0);
        ask(0);
        for (int number : row(-1, MIN, MAX, 4)) {
            stands(OUT, number);
            isThere(OUT, number);
            isInForce(OUT, number);
            counts(OUT, number);
            on(OUT, 0, number);
            length(OUT, number);
        }
        letter(OUT, -1);
        letter(OUT, 27);
        isThere(OUT, 2);
        isInForce(OUT, 1);
        on(OUT, 0, 1);
        length(OUT, 1);
        says("(those that were made with them, whether they count or not)");
        boxes(2);
        lay(0, 1, ALIGN, 0, 1);
        back(0, 1);
        isInForce(0, 0);
        holds(0, 0);
        drop(STATE, 1, 0);
        counts(0, 2);
        back(0, 0);
        isThere(0, 1);
        number(NO_SUCH, 1, 0);
        move(STATE, 0, 1, 0, 0);
        lay(STATE, 0, ALIGN, 0, 1);
        part(NO_SUCH, 1, true);
        holds(NO_SUCH, 0);
        counts(0, 1);
        says("IllegalArgumentException: another argument is out of its range.");
        boxes(2);
        box(BAD, 0, 1000, 0, 5, 5);
        move(BAD, 0, 0, 0, -1000);
        resize(BAD, 0, 0, 0, 5);
        lay(BAD, 0, 7, 0, 1);
        number(BAD, 0, 4);
        says("IllegalStateException, NoSuchElementException: as the method tells.");
        boxes(1);
        back(0, 0);
        back(STATE, 0);
        number(NO_SUCH, 0, 0);
        says("If several apply, the one that is named first in the throws clause is thrown");
        severalApply();
        says("a call that throws changes nothing");
        severalApply();
        acts(60);
        clear(5);
        make(2);
        says("The constants: `NONE = -1`: There is none.");
        checks.same("NONE", "-1", String.valueOf(Sketchlock.NONE));
        stands(Sketchlock.NONE, 0);
        make(Sketchlock.NONE);
        says("`WIDTH = 0, HEIGHT = 1, TOUCH = 2, ALIGN = 3, OVER = 4, LEVEL = 5, TIE = 6`: Kinds of rules.");
        for (int kind = 0; kind < 7; kind++) {
            checks.same("the kind " + kind, String.valueOf(kind), String.valueOf(KINDS[kind]));
        }
        endSection();
    }

    /**
     * A board on which no act can be made any more, shape 9 is not there, rule 11 is not in force, and export 2
     * waits; on it each call that is wrong in more than one way.
     */
    private void severalApply() {
        spell(0, 1, 2, 3, 4);
        for (int shape = 0; shape < 9; shape++) {
            label(shape, 0, shape, shape, false);
        }
        box(9, 1, 9, 9, 5, 5);
        for (int rule = 0; rule < 11; rule++) {
            lay(rule, 0, TIE, 0, 1);
        }
        lay(11, 1, TIE, 9, 0);
        for (int act = 22; act < 60; act++) {
            move(1, 3, 5, act, 5);
        }
        back(0, 1);
        back(0, 1);
        for (int export = 0; export < 10; export++) {
            ask(export);
        }
        make(0);
        make(1);
        letter(OUT, 27);
        box(OUT, 4, 1000, 0, 5, 5);
        box(OUT, -1, 0, 0, 5, 5);
        box(BAD, 0, 0, -1000, 5, 5);
        box(BAD, 0, 0, 0, 5, 100);
        box(STATE, 0, 0, 0, 5, 5);
        label(OUT, 4, 0, 1000, true);
        label(OUT, -1, 0, 0, true);
        label(BAD, 0, -1000, 0, true);
        label(STATE, 0, 0, 0, true);
        move(OUT, 4, 10, 1000, 0);
        move(OUT, 0, 10, 0, 1000);
        move(OUT, 0, -1, 0, 0);
        move(BAD, 0, 9, 1000, 0);
        move(STATE, 0, 9, 0, 0);
        resize(OUT, -1, 9, 0, 0);
        resize(OUT, 0, 10, 0, 0);
        resize(OUT, 4, 0, 10, 2);
        resize(BAD, 0, 9, 100, 5);
        resize(BAD, 0, 0, 10, 0);
        resize(STATE, 0, 9, 5, 5);
        lay(OUT, 4, 7, 0, 0);
        lay(OUT, 0, 7, 10, 10);
        lay(OUT, 0, 7, 0, 10);
        lay(OUT, 0, 7, -1, 0);
        lay(BAD, 0, 7, 9, 0);
        lay(BAD, 0, -1, 0, 9);
        lay(BAD, 0, TIE, 9, 9);
        lay(STATE, 0, TIE, 9, 0);
        moreApply();
    }

    private void moreApply() {
        drop(OUT, 4, 0);
        drop(OUT, 0, 12);
        drop(OUT, 0, -1);
        drop(STATE, 0, 11);
        back(OUT, 4);
        back(STATE, 1);
        on(OUT, 4, 9);
        on(OUT, 1, 1);
        number(OUT, 10, 4);
        number(BAD, 9, 4);
        number(NO_SUCH, 9, 3);
        numberAnew(OUT, -1, -1);
        numberAnew(BAD, 9, -1);
        numberAnew(NO_SUCH, 9, 0);
        holds(OUT, 12);
        holds(NO_SUCH, 11);
        part(OUT, 10, true);
        part(NO_SUCH, 9, true);
        ask(STATE);
        length(OUT, 10);
        length(NO_SUCH, 2);
        charAt(OUT, 10, -1);
        charAt(NO_SUCH, 2, -1);
        charAt(NO_SUCH, 0, -1);
        charAnew(OUT, -1, -1);
        charAnew(NO_SUCH, 2, -1);
        charAnew(NO_SUCH, 0, -1);
    }
}
