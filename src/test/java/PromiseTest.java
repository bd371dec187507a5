/** The promises of the document one by one: ordinary inputs, edges and wrong inputs. */
final class PromiseTest extends BoardChecks {
    public static void main(String[] args) {
        PromiseTest test = new PromiseTest();
        test.newObject();
        test.spelledText();
        test.boxes();
        test.labels();
        test.moves();
        test.sizes();
        test.places();
        test.rings();
        test.ends();
        test.rules();
        test.rulesInOnePart();
        test.classes();
        test.ties();
        test.drops();
        test.goingBackAndOn();
        test.voidActs();
        test.numbers();
        test.askedOfRules();
        test.parts();
        test.exports();
        test.exportTexts();
        test.limits();
        test.longestBranch();
        test.failedCallsLeaveNoTrace();
        test.checks.end("PromiseTest");
    }

    // ---- the promises

    private void newObject() {
        fresh("1 a new object");
        acts(0);
        broken(0);
        make(-1);
        clear(0);
        isThere(OUT, 0);
        isInForce(OUT, 0);
        holds(OUT, 0);
        counts(OUT, 0);
        length(OUT, 0);
        for (int drawer = 0; drawer < 4; drawer++) {
            stands(-1, drawer);
            branches(0, drawer);
            below(0, drawer);
            back(STATE, drawer);
        }
        askAndMake(0, "");
    }

    private void spelledText() {
        fresh("2 spell");
        letter(OUT, -1);
        letter(OUT, 27);
        letter(OUT, MIN);
        letter(2, 26);
        letter(3, 0);
        letter(5, 26);
        letter(6, 25);
        letter(8, 26);
        letter(STATE, 0);
        letter(OUT, 27);
        fresh("3 clearSpelled");
        letter(2, 26);
        letter(3, 1);
        clear(2);
        clear(0);
        letter(1, 2);
        label(0, 0, 0, 0, false);
        letter(2, 3);
        askAndMake(0, "t0:0,0,2,2,c;");
    }

    private void boxes() {
        fresh("4 addBox");
        box(OUT, -1, 1000, 0, 1, 1);
        box(OUT, 4, 0, 0, 0, 1);
        int[][] bad = {{-1000, 0, 1, 1}, {1000, 0, 1, 1}, {0, -1000, 1, 1}, {0, 1000, 1, 1}, {0, 0, 0, 1},
            {0, 0, 100, 1}, {0, 0, 1, 0}, {0, 0, 1, 100}, {MIN, 0, 1, 1}, {0, MAX, 1, 1}, {0, 0, MAX, 1},
            {0, 0, 1, MIN}};
        for (int[] row : bad) {
            box(BAD, 0, row[0], row[1], row[2], row[3]);
        }
        acts(0);
        box(0, 3, -999, 999, 1, 99);
        box(1, 0, 999, -999, 99, 1);
        at(0, -999, 999, 1, 99);
        at(1, 999, -999, 99, 1);
        isThere(1, 1);
        acts(2);
        stands(0, 3);
        stands(1, 0);
        for (int shape = 2; shape < 10; shape++) {
            box(shape, 1, shape, shape, 5, 5);
        }
        box(STATE, 1, 0, 0, 1, 1);
        box(BAD, 1, 0, 0, 0, 1);
        back(0, 1);
        box(STATE, 1, 0, 0, 1, 1);
        isThere(0, 9);
    }

    private void labels() {
        fresh("5 addLabel");
        label(STATE, 0, 0, 0, false);
        label(BAD, 0, 1000, 0, false);
        label(OUT, 4, 1000, 0, false);
        spell(0);
        spell(26);
        label(OUT, -1, 0, 0, false);
        label(BAD, 0, -1000, 0, false);
        label(BAD, 0, 0, 1000, false);
        label(BAD, 0, 0, -1000, false);
        label(0, 0, -999, 999, true);
        at(0, -999, 999, 4, 2);
        spell(1);
        spell(2);
        spell(3);
        label(1, 1, 999, -999, false);
        at(1, 999, -999, 10, 2);
        clear(5);
        label(STATE, 0, 0, 0, false);
        askAndMake(0, "t0:-999,999,4,2,\uD83D\uDCD0a;t1:999,-999,10,2,a\uD83D\uDCD0bcd;");
        spell(4);
        for (int shape = 2; shape < 10; shape++) {
            label(shape, 2, 0, 0, false);
        }
        label(STATE, 2, 0, 0, false);
    }

    private void moves() {
        fresh("6 move");
        box(0, 0, 0, 0, 5, 5);
        move(OUT, 4, 0, 1000, 0);
        move(OUT, 0, 1, 1000, 0);
        move(OUT, 0, -1, 0, 0);
        move(BAD, 0, 0, 1000, 0);
        move(BAD, 0, 0, 0, -1000);
        move(BAD, 0, 0, MIN, MAX);
        move(0, 1, 0, 0, 0);
        acts(2);
        move(1, 1, 0, 999, -999);
        at(0, 999, -999, 5, 5);
        move(1, 1, 0, 0, 0);
        box(1, 0, 50, 60, 3, 3);
        lay(0, 2, TOUCH, 0, 1);
        at(1, 5, 60, 3, 3);
        move(1, 3, 0, 0, 7);
        at(1, 5, 60, 3, 3);
        move(2, 3, 0, 994, 7);
        at(1, 999, 60, 3, 3);
        move(STATE, 3, 0, 995, 7);
        move(STATE, 3, 1, -995, 0);
        at(0, 994, 7, 5, 5);
        lay(1, 2, LEVEL, 0, 1);
        move(2, 3, 1, -994, -8);
        at(0, -999, -8, 5, 5);
        at(1, -994, -8, 3, 3);
        back(3, 0);
        isThere(0, 1);
        move(STATE, 3, 1, 0, 0);
        move(1, 3, 0, 0, 0);
    }

    private void sizes() {
        fresh("7 resize");
        box(0, 0, 0, 0, 5, 5);
        resize(OUT, -1, 0, 0, 1);
        resize(OUT, 0, 1, 0, 1);
        resize(BAD, 0, 0, 0, 1);
        resize(BAD, 0, 0, 1, 100);
        resize(BAD, 0, 0, MIN, 1);
        resize(0, 0, 0, 5, 5);
        resize(1, 0, 0, 99, 1);
        at(0, 0, 0, 99, 1);
        spell(0);
        label(1, 0, 10, 20, false);
        resize(0, 1, 1, 2, 2);
        resize(STATE, 1, 1, 3, 2);
        resize(STATE, 1, 1, 2, 1);
        box(2, 0, 7, 7, 9, 9);
        lay(0, 0, WIDTH, 1, 2);
        at(2, 7, 7, 2, 9);
        resize(STATE, 1, 2, 3, 9);
        resize(1, 1, 2, 2, 8);
        lay(1, 0, HEIGHT, 2, 0);
        resize(2, 1, 0, 99, 3);
        at(2, 7, 7, 2, 3);
        lay(2, 0, OVER, 2, 1);
        at(1, 10, 10, 2, 2);
        resize(2, 3, 0, 98, 4);
        at(0, 0, 0, 98, 4);
        at(1, 10, 10, 2, 2);
        at(2, 7, 6, 2, 4);
        resize(3, 3, 2, 2, 5);
        at(0, 0, 0, 98, 5);
        at(1, 10, 11, 2, 2);
        at(2, 7, 6, 2, 5);
    }

    /** How places are settled: who stays, who follows, and what cannot be done. */
    private void places() {
        fresh("7 places: the lead stays");
        box(0, 0, 0, 0, 5, 5);
        box(1, 0, 0, 0, 6, 5);
        box(2, 0, 0, 0, 7, 5);
        lay(0, 0, TOUCH, 0, 1);
        lay(1, 0, TOUCH, 1, 2);
        resize(2, 0, 1, 10, 5);
        at(0, 0, 0, 5, 5);
        at(1, 5, 0, 10, 5);
        at(2, 15, 0, 7, 5);
        lay(2, 0, WIDTH, 2, 0);
        at(0, -2, 0, 7, 5);
        at(1, 5, 0, 10, 5);
        at(2, 15, 0, 7, 5);
        resize(3, 0, 0, 8, 5);
        at(0, -2, 0, 8, 5);
        at(1, 6, 0, 10, 5);
        at(2, 16, 0, 8, 5);

        fresh("7 places: the lowest number stays where the lead is not");
        for (int shape = 0; shape < 6; shape++) {
            box(shape, 0, shape * 20, shape * 30, 5, 5);
        }
        lay(0, 0, TOUCH, 3, 2);
        lay(1, 0, OVER, 4, 3);
        lay(2, 0, WIDTH, 5, 3);
        lay(3, 0, HEIGHT, 5, 4);
        at(2, 65, 60, 5, 5);
        at(3, 60, 125, 5, 5);
        resize(3, 0, 5, 9, 8);
        at(2, 65, 60, 5, 5);
        at(3, 56, 125, 9, 5);
        at(4, 80, 117, 5, 8);
        at(5, 100, 150, 9, 8);

        fresh("7 places: rules would tell two places");
        for (int shape = 0; shape < 3; shape++) {
            box(shape, 0, 0, 0, 5, 5);
        }
        lay(0, 0, TOUCH, 0, 1);
        lay(1, 0, TOUCH, 1, 2);
        lay(2, 0, TIE, 0, 2);
        resize(STATE, 0, 0, 6, 5);
        resize(STATE, 0, 1, 4, 5);
        resize(1, 0, 2, 4, 5);
        resize(1, 0, 0, 5, 9);
        at(2, 10, 0, 4, 5);

        fresh("7 places: a number would leave its range");
        box(0, 0, 990, -990, 9, 9);
        box(1, 0, 0, 0, 9, 9);
        lay(0, 0, TOUCH, 0, 1);
        lay(1, 0, OVER, 1, 0);
        at(0, 990, 9, 9, 9);
        resize(STATE, 0, 0, 10, 9);
        resize(2, 0, 1, 9, 99);
        move(2, 0, 1, 999, -999);
        resize(STATE, 0, 0, 10, 99);
        resize(2, 0, 1, 99, 1);
        at(0, 990, -998, 9, 9);
        at(1, 999, -999, 99, 1);
    }

    /** Rings of rules that fit no more, with the lead in them and beside them, and in acts that are done again. */
    private void rings() {
        fresh("7 places: a ring beside the lead");
        for (int shape = 0; shape < 6; shape++) {
            box(shape, 0, shape, shape, 5, 5);
        }
        lay(0, 0, ALIGN, 0, 1);
        lay(1, 0, TOUCH, 1, 2);
        lay(2, 0, TOUCH, 2, 3);
        lay(3, 0, TIE, 1, 3);
        lay(4, 0, WIDTH, 5, 2);
        lay(5, 0, WIDTH, 4, 3);
        resize(STATE, 1, 5, 6, 5);
        resize(STATE, 1, 5, 4, 5);
        resize(2, 1, 4, 4, 5);
        at(2, 5, 2, 5, 5);
        at(3, 10, 3, 4, 5);
        drop(5, 1, 3);
        resize(3, 1, 5, 6, 5);
        at(1, 0, 1, 5, 5);
        at(2, 5, 2, 6, 5);
        at(3, 11, 3, 4, 5);

        fresh("17 a ring in acts that are done again");
        for (int shape = 0; shape < 4; shape++) {
            box(shape, 0, shape, shape, 5, 5);
        }
        lay(0, 2, OVER, 0, 1);
        lay(1, 2, OVER, 1, 2);
        lay(2, 2, TIE, 0, 2);
        lay(3, 2, HEIGHT, 3, 1);
        back(0, 2);
        back(0, 2);
        resize(2, 3, 1, 5, 8);
        at(2, 2, 13, 5, 5);
        on(1, 2, 0);
        isVoid(1, 8);
        at(1, 1, 5, 5, 5);
        at(2, 2, 10, 5, 5);
        on(1, 2, 0);
        move(3, 1, 2, 0, 0);
        askAndMake(0, "b0:-2,-10,5,5;b1:1,-5,5,5;b2:0,0,5,5;b3:3,3,5,5;r0;r1;r2;r3;");
        broken(0);
        back(1, 2);
        back(0, 2);
        at(1, 1, -8, 5, 8);
        at(0, 0, -13, 5, 5);
    }

    /** Places that would be told behind a number's end, for the first and the last shape and both axes. */
    private void ends() {
        fresh("7 places: the first shape behind the lowest number");
        box(0, 0, -998, -998, 3, 3);
        box(1, 0, 0, 0, 3, 3);
        lay(0, 0, TOUCH, 0, 1);
        lay(1, 0, OVER, 0, 1);
        lay(2, 0, WIDTH, 0, 1);
        lay(3, 0, HEIGHT, 0, 1);
        resize(2, 1, 1, 4, 4);
        at(0, -999, -999, 4, 4);
        at(1, -995, -995, 4, 4);
        resize(STATE, 1, 1, 5, 4);
        resize(STATE, 1, 1, 4, 5);
        resize(2, 1, 0, 5, 5);
        at(0, -999, -999, 5, 5);
        at(1, -994, -994, 5, 5);

        fresh("7 places: the last shape behind the highest number");
        for (int shape = 0; shape < 10; shape++) {
            box(shape, 0, 987 + shape, 987 + shape, 4, 4);
        }
        lay(STATE, 0, TOUCH, 9, 8);
        lay(STATE, 0, OVER, 9, 8);
        lay(0, 0, TOUCH, 8, 9);
        lay(1, 0, OVER, 8, 9);
        at(9, 999, 999, 4, 4);
        resize(STATE, 1, 8, 5, 4);
        resize(STATE, 1, 8, 4, 5);
        resize(2, 1, 8, 3, 2);
        at(9, 998, 997, 4, 4);
    }

    private void rules() {
        fresh("8 lay");
        box(0, 0, 0, 0, 5, 6);
        box(1, 0, 100, 200, 7, 8);
        lay(OUT, 4, 9, 0, 0);
        lay(OUT, 0, 9, 0, 2);
        lay(OUT, 0, 9, -1, 0);
        lay(BAD, 0, -1, 0, 1);
        lay(BAD, 0, 7, 0, 1);
        lay(BAD, 0, WIDTH, 1, 1);
        lay(0, 0, WIDTH, 0, 1);
        at(1, 100, 200, 5, 8);
        lay(1, 1, HEIGHT, 1, 0);
        at(0, 0, 0, 5, 8);
        lay(2, 2, ALIGN, 1, 0);
        at(0, 100, 0, 5, 8);
        lay(3, 3, LEVEL, 0, 1);
        at(1, 100, 0, 5, 8);
        isInForce(1, 3);
        acts(6);

        fresh("8 lay: range and shapes that are not there");
        box(0, 0, 998, 998, 2, 1);
        box(1, 1, 0, 0, 1, 2);
        lay(STATE, 0, TOUCH, 0, 1);
        lay(0, 0, OVER, 0, 1);
        at(1, 0, 999, 1, 2);
        lay(1, 0, TOUCH, 1, 0);
        at(0, 1, 998, 2, 1);
        back(2, 1);
        lay(STATE, 0, ALIGN, 0, 1);
        lay(STATE, 0, ALIGN, 1, 0);
        on(0, 1, 0);
        lay(STATE, 3, ALIGN, 1, 0);
        lay(2, 3, TOUCH, 1, 0);
    }

    private void rulesInOnePart() {
        fresh("8 lay: in one part it has to hold already");
        box(0, 0, 0, 0, 5, 5);
        box(1, 0, 9, 9, 5, 5);
        box(2, 0, 20, 20, 5, 5);
        lay(0, 0, ALIGN, 0, 1);
        lay(1, 0, ALIGN, 1, 2);
        at(2, 0, 20, 5, 5);
        lay(STATE, 0, TOUCH, 0, 2);
        lay(2, 0, ALIGN, 2, 0);
        lay(3, 0, OVER, 0, 2);
        at(2, 0, 5, 5, 5);
        lay(STATE, 0, OVER, 2, 0);
        lay(STATE, 0, LEVEL, 2, 0);
        lay(4, 0, OVER, 0, 2);
        lay(5, 0, LEVEL, 2, 1);
        at(1, 0, 5, 5, 5);
        move(3, 0, 1, 7, 15);
        at(0, 7, 10, 5, 5);
        at(2, 7, 15, 5, 5);

        fresh("8 lay: the whole part of b follows");
        for (int shape = 0; shape < 4; shape++) {
            box(shape, 0, shape * 100, 0, 10, 10);
        }
        lay(0, 0, TOUCH, 1, 2);
        lay(1, 0, TOUCH, 0, 2);
        at(1, 0, 0, 10, 10);
        at(2, 10, 0, 10, 10);
        lay(2, 0, ALIGN, 3, 0);
        at(0, 300, 0, 10, 10);
        at(1, 300, 0, 10, 10);
        at(2, 310, 0, 10, 10);
        at(3, 300, 0, 10, 10);
    }

    private void classes() {
        fresh("8 lay: classes");
        for (int shape = 0; shape < 4; shape++) {
            box(shape, 0, shape * 10, 0, shape + 1, shape + 11);
        }
        lay(0, 0, WIDTH, 0, 1);
        lay(1, 0, WIDTH, 2, 3);
        lay(2, 0, WIDTH, 0, 3);
        at(1, 10, 0, 1, 12);
        at(2, 20, 0, 1, 13);
        at(3, 30, 0, 1, 14);
        lay(3, 0, WIDTH, 3, 1);
        resize(4, 0, 1, 50, 12);
        at(0, 0, 0, 50, 11);
        at(2, 20, 0, 50, 13);
        lay(4, 0, HEIGHT, 3, 2);
        at(2, 20, 0, 50, 14);
        resize(2, 0, 2, 50, 1);
        at(3, 30, 0, 50, 1);
        drop(4, 0, 3);
        drop(3, 0, 2);
        resize(2, 0, 1, 3, 12);
        at(0, 0, 0, 3, 11);
        at(2, 20, 0, 50, 1);

        fresh("8 lay: a label keeps its size");
        spell(0);
        label(0, 0, 0, 0, false);
        box(1, 0, 0, 0, 3, 3);
        spell(1);
        label(2, 0, 0, 0, false);
        lay(STATE, 0, WIDTH, 1, 0);
        lay(STATE, 0, WIDTH, 0, 2);
        lay(STATE, 0, HEIGHT, 1, 0);
        lay(0, 0, HEIGHT, 0, 2);
        lay(1, 0, WIDTH, 0, 1);
        lay(STATE, 0, WIDTH, 2, 1);
        at(1, 0, 0, 2, 3);

        fresh("8 lay: places are settled after a class, the lead being a");
        box(0, 0, 0, 0, 5, 5);
        box(1, 0, 0, 0, 5, 5);
        box(2, 0, 0, 0, 8, 9);
        lay(0, 0, TOUCH, 1, 2);
        lay(1, 0, TOUCH, 0, 1);
        lay(2, 0, WIDTH, 2, 0);
        at(0, -3, 0, 8, 5);
        at(1, 5, 0, 5, 5);
        at(2, 10, 0, 8, 9);
        lay(3, 0, OVER, 0, 2);
        lay(4, 0, HEIGHT, 2, 0);
        at(0, -3, -4, 8, 9);
        at(2, 10, 5, 8, 9);
    }

    private void ties() {
        fresh("8 lay: ties");
        box(0, 0, 0, 0, 5, 5);
        box(1, 1, 20, -30, 5, 5);
        lay(0, 2, TIE, 0, 1);
        part(2, 0, true);
        part(2, 1, false);
        move(2, 2, 1, 21, -30);
        at(0, 1, 0, 5, 5);
        lay(STATE, 2, ALIGN, 0, 1);
        lay(STATE, 2, LEVEL, 0, 1);
        lay(1, 2, TIE, 1, 0);
        holds(1, 1);
        move(2, 2, 1, 22, -31);
        at(0, 2, -1, 5, 5);

        fresh("8 lay: a tie is laid anew as things are then");
        box(0, 0, 0, 0, 5, 5);
        box(1, 1, 20, 30, 5, 5);
        move(1, 1, 1, 50, 60);
        lay(0, 2, TIE, 0, 1);
        back(0, 1);
        at(1, 20, 30, 5, 5);
        move(2, 3, 0, 1, 1);
        at(1, 21, 31, 5, 5);
        on(0, 1, 0);
        at(0, 1, 1, 5, 5);
        at(1, 51, 61, 5, 5);
        resize(1, 2, 0, 99, 99);
        at(1, 51, 61, 5, 5);
    }

    private void drops() {
        fresh("9 drop");
        box(0, 0, 0, 0, 5, 5);
        box(1, 0, 20, 30, 5, 5);
        drop(OUT, 0, 0);
        lay(0, 0, ALIGN, 0, 1);
        lay(1, 0, LEVEL, 0, 1);
        lay(2, 0, WIDTH, 0, 1);
        drop(OUT, 4, 0);
        drop(OUT, 0, 3);
        drop(OUT, 0, -1);
        drop(2, 1, 0);
        isInForce(0, 0);
        isInForce(1, 1);
        drop(STATE, 0, 0);
        at(1, 0, 0, 5, 5);
        move(1, 0, 0, 9, 0);
        drop(1, 2, 1);
        drop(0, 3, 2);
        acts(9);
        back(0, 1);
        isInForce(1, 0);
        at(1, 9, 0, 5, 5);
        move(2, 1, 0, 4, 4);
        at(1, 4, 0, 5, 5);
    }

    private void goingBackAndOn() {
        fresh("10 to 17 trees");
        box(0, 1, 0, 0, 5, 5);
        back(OUT, -1);
        back(OUT, 4);
        on(OUT, 4, 0);
        branches(OUT, -1);
        branches(OUT, 4);
        below(OUT, -1);
        below(OUT, 4);
        stands(OUT, -1);
        stands(OUT, 4);
        back(STATE, 0);
        on(OUT, 1, 0);
        move(1, 1, 0, 1, 0);
        back(0, 1);
        move(1, 1, 0, 2, 0);
        move(1, 1, 0, 3, 0);
        back(0, 1);
        move(1, 1, 0, 4, 0);
        back(0, 1);
        branches(2, 1);
        stands(2, 1);
        below(2, 1);
        back(0, 1);
        at(0, 0, 0, 5, 5);
        stands(0, 1);
        branches(2, 1);
        below(4, 1);
        on(OUT, 1, 2);
        on(OUT, 1, -1);
        on(OUT, 1, MAX);
        on(OUT, 1, MIN);
        on(0, 1, 1);
        stands(2, 1);
        on(0, 1, 0);
        stands(3, 1);
        at(0, 3, 0, 5, 5);
        back(0, 1);
        on(0, 1, 1);
        stands(4, 1);
        at(0, 4, 0, 5, 5);
        below(0, 1);
        branches(0, 1);
        boolean[] counting = {true, false, true, false, true};
        for (int act = 0; act < counting.length; act++) {
            counts(counting[act] ? 1 : 0, act);
            isVoid(0, act);
        }
        counts(OUT, 5);
        counts(OUT, -1);
        isVoid(OUT, 5);
        isVoid(OUT, -1);
        acts(5);
        move(1, 2, 0, 77, 0);
        back(0, 1);
        at(0, 77, 0, 5, 5);
        stands(-1, 3);
        below(0, 3);
        branches(0, 2);
        back(0, 1);
        back(1, 1);
        back(STATE, 1);
        branches(1, 1);
        below(5, 1);
        acts(6);
    }

    private void voidActs() {
        fresh("10, 11, 17, 23 void acts");
        box(0, 0, 0, 0, 5, 5);
        box(1, 1, 50, 50, 5, 5);
        lay(0, 2, ALIGN, 0, 1);
        lay(1, 2, LEVEL, 1, 0);
        move(2, 3, 0, 3, 3);
        drop(1, 2, 0);
        broken(0);
        back(3, 1);
        broken(2);
        for (int act = 0; act < 6; act++) {
            isVoid(act == 2 || act == 3 || act == 5 ? 1 : 0, act);
            counts(act == 1 ? 0 : 1, act);
        }
        at(0, 3, 3, 5, 5);
        back(2, 2);
        isVoid(0, 5);
        broken(2);
        back(1, 2);
        broken(1);
        isVoid(0, 3);
        box(2, 1, 7, 7, 7, 7);
        broken(1);
        back(1, 1);
        on(0, 1, 0);
        broken(0);
        isVoid(0, 2);
        on(0, 2, 0);
        at(0, 3, 3, 5, 5);
        at(1, 3, 3, 5, 5);
        back(0, 3);
        at(0, 0, 50, 5, 5);
        at(1, 0, 50, 5, 5);

        fresh("17 an act that failed by another's one is done again");
        box(0, 0, 990, 0, 5, 5);
        box(1, 0, 0, 0, 5, 5);
        move(1, 1, 0, 0, 0);
        lay(0, 2, TOUCH, 0, 1);
        resize(2, 3, 0, 10, 5);
        isVoid(0, 4);
        back(1, 1);
        isVoid(1, 4);
        broken(0);
        at(0, 990, 0, 5, 5);
        at(1, 995, 0, 5, 5);
        on(0, 1, 0);
        at(1, 10, 0, 5, 5);
    }

    private void numbers() {
        fresh("18, 19, 20 numbers");
        box(0, 0, 1, -2, 3, 4);
        at(0, 1, -2, 3, 4);
        isThere(OUT, -1);
        isThere(OUT, 1);
        number(OUT, 1, 4);
        number(OUT, -1, 0);
        numberAnew(OUT, 1, 4);
        numberAnew(OUT, -1, 4);
        for (int what : new int[] {-1, 4, MIN, MAX}) {
            number(BAD, 0, what);
            numberAnew(BAD, 0, what);
        }
        isThere(1, 0);
        back(0, 0);
        isThere(0, 0);
        number(BAD, 0, 4);
        numberAnew(BAD, 0, -1);
        for (int what = 0; what < 4; what++) {
            number(NO_SUCH, 0, what);
            numberAnew(NO_SUCH, 0, what);
        }
    }

    private void askedOfRules() {
        fresh("21, 22 isInForce and holds");
        box(0, 0, 0, 0, 5, 6);
        box(1, 1, 5, 6, 7, 8);
        int[] kinds = {WIDTH, HEIGHT, TOUCH, ALIGN, OVER, LEVEL, TIE};
        for (int rule = 0; rule < kinds.length; rule++) {
            lay(rule, 2, kinds[rule], 0, 1);
            isInForce(1, rule);
            holds(1, rule);
            back(0, 2);
            isInForce(0, rule);
            // As they are now, the second box touches the first one and is over it, and no more.
            holds(rule == 6 ? NO_SUCH : rule == 2 || rule == 4 ? 1 : 0, rule);
        }
        isInForce(OUT, -1);
        isInForce(OUT, 7);
        holds(OUT, -1);
        holds(OUT, 7);
        move(1, 2, 1, 0, 0);
        resize(1, 2, 1, 5, 6);
        int[] holding = {1, 1, 0, 1, 0, 1};
        for (int rule = 0; rule < holding.length; rule++) {
            holds(holding[rule], rule);
        }
        back(2, 1);
        for (int rule = 0; rule < kinds.length; rule++) {
            holds(NO_SUCH, rule);
            isInForce(0, rule);
        }
        on(0, 1, 0);
        back(0, 0);
        holds(NO_SUCH, 2);
    }

    private void parts() {
        fresh("24 part");
        for (int shape = 0; shape < 5; shape++) {
            box(shape, 0, shape, shape, 5, 5);
        }
        part(OUT, -1, true);
        part(OUT, 5, false);
        lay(0, 1, WIDTH, 0, 1);
        lay(1, 1, HEIGHT, 0, 1);
        isPart(0, 1, 1);
        lay(2, 1, TOUCH, 4, 3);
        lay(3, 1, ALIGN, 2, 1);
        isPart(3, 2, 1);
        isPart(1, 2, 1);
        lay(4, 1, OVER, 3, 2);
        lay(5, 1, LEVEL, 1, 0);
        isPart(2, 2, 2);
        isPart(0, 1, 2);
        lay(6, 1, TIE, 3, 2);
        isPart(1, 4, 2);
        isPart(4, 4, 1);
        isPart(3, 4, 2);
        lay(7, 1, TIE, 1, 3);
        isPart(0, 1, 4);
        isPart(2, 4, 4);
        drop(7, 1, 6);
        isPart(2, 4, 4);
        drop(6, 1, 7);
        isPart(2, 2, 2);
        isPart(4, 2, 1);
        back(1, 0);
        part(NO_SUCH, 4, true);
    }

    private void isPart(int shape, int forX, int forY) {
        part(forX, shape, true);
        part(forY, shape, false);
    }

    private void exports() {
        fresh("25 to 29 exports");
        box(0, 0, 1, 2, 3, 4);
        ask(0);
        move(1, 0, 0, -1, -20);
        ask(1);
        back(0, 0);
        back(0, 0);
        ask(2);
        for (int export = 0; export < 3; export++) {
            waits(export);
        }
        make(0);
        exported(0, "b0:1,2,3,4;");
        waits(1);
        on(0, 0, 0);
        make(1);
        exported(1, "b0:-1,-20,3,4;");
        waits(2);
        make(2);
        exported(2, "");
        make(-1);
        for (int export : new int[] {-1, 3, MIN, MAX}) {
            length(OUT, export);
            charAt(OUT, export, -1);
            charAnew(OUT, export, -1);
        }
        for (int at : new int[] {-1, 11, MIN, MAX}) {
            charAt(NO_SUCH, 0, at);
            charAnew(NO_SUCH, 0, at);
        }
        for (int export = 3; export < 10; export++) {
            ask(export);
        }
        ask(STATE);
        make(3);
        ask(STATE);
    }

    private void waits(int export) {
        length(NO_SUCH, export);
        charAt(NO_SUCH, export, 0);
        charAnew(NO_SUCH, export, 0);
    }

    private void exportTexts() {
        fresh("27 to 29 texts");
        spell(25);
        spell(26);
        spell(12);
        label(0, 0, -999, 100, false);
        label(1, 0, 10, -10, true);
        box(2, 1, 0, 9, 99, 10);
        box(3, 2, -1, 999, 1, 9);
        clear(3);
        spell(26);
        label(4, 3, 101, -100, true);
        lay(0, 1, TIE, 0, 1);
        lay(1, 1, HEIGHT, 0, 2);
        lay(2, 1, LEVEL, 3, 4);
        drop(2, 0, 1);
        askAndMake(0, "t0:-999,100,6,2,z\uD83D\uDCD0m;t1:10,-10,6,2,m\uD83D\uDCD0z;b2:0,9,99,2;b3:-1,999,1,9;"
                + "t4:101,999,2,2,\uD83D\uDCD0;r0;r2;");
        back(1, 2);
        askAndMake(1, "t0:-999,100,6,2,z\uD83D\uDCD0m;t1:10,-10,6,2,m\uD83D\uDCD0z;b2:0,9,99,2;"
                + "t4:101,-100,2,2,\uD83D\uDCD0;r0;");
        exported(0, "t0:-999,100,6,2,z\uD83D\uDCD0m;t1:10,-10,6,2,m\uD83D\uDCD0z;b2:0,9,99,2;b3:-1,999,1,9;"
                + "t4:101,999,2,2,\uD83D\uDCD0;r0;r2;");

        fresh("27 to 29 the longest text");
        for (int letter = 0; letter < 5; letter++) {
            spell(26);
        }
        StringBuilder text = new StringBuilder();
        for (int shape = 0; shape < 10; shape++) {
            label(shape, 0, -999, -999, false);
            text.append("t").append(shape).append(":-999,-999,10,2,");
            text.append("\uD83D\uDCD0".repeat(5)).append(";");
        }
        for (int rule = 0; rule < 12; rule++) {
            lay(rule, 1, rule % 7 == TOUCH || rule % 7 == OVER ? TIE : rule % 7, rule % 9, rule % 9 + 1);
            text.append("r").append(rule).append(";");
        }
        askAndMake(0, text.toString());
    }

    private void limits() {
        fresh("4 to 9 limits: 12 rules");
        box(0, 0, 0, 0, 5, 5);
        box(1, 1, 0, 0, 5, 5);
        for (int rule = 0; rule < 12; rule++) {
            lay(rule, 0, ALIGN, 0, 1);
        }
        lay(STATE, 0, ALIGN, 0, 1);
        lay(BAD, 0, ALIGN, 1, 1);
        back(0, 0);
        lay(STATE, 0, ALIGN, 0, 1);
        acts(14);

        fresh("4 to 9 limits: 60 acts");
        spell(0);
        box(0, 0, 0, 0, 5, 5);
        box(1, 1, 0, 0, 5, 5);
        lay(0, 2, ALIGN, 0, 1);
        for (int act = 3; act < 60; act++) {
            move(2, 3, 0, act, 0);
        }
        acts(60);
        box(STATE, 0, 0, 0, 1, 1);
        label(STATE, 0, 0, 0, false);
        move(STATE, 0, 0, 0, 0);
        resize(STATE, 0, 0, 1, 1);
        lay(STATE, 0, LEVEL, 0, 1);
        drop(STATE, 0, 0);
        isThere(OUT, 2);
        isInForce(OUT, 1);
        stands(59, 3);
        counts(1, 59);
        back(0, 3);
        counts(0, 59);
        at(1, 58, 0, 5, 5);
        move(STATE, 0, 0, 0, 0);
        on(0, 3, 0);
        for (int act = 59; act >= 3; act--) {
            back(0, 3);
        }
        at(1, 0, 0, 5, 5);
        below(57, 3);
    }

    private void longestBranch() {
        fresh("10 to 17 trees: one branch of 60 acts");
        box(0, 0, 0, 0, 5, 5);
        branches(0, 0);
        on(OUT, 0, 0);
        for (int act = 1; act < 60; act++) {
            move(1, 0, 0, act, 0);
        }
        counts(1, 0);
        counts(1, 59);
        back(0, 0);
        at(0, 58, 0, 5, 5);
        on(0, 0, 0);
        at(0, 59, 0, 5, 5);
        for (int act = 0; act < 60; act++) {
            back(0, 0);
        }
        below(60, 0);
        back(STATE, 0);
        isThere(0, 0);
    }

    private void failedCallsLeaveNoTrace() {
        fresh("a call that throws changes nothing");
        box(0, 0, 0, 0, 5, 5);
        box(1, 1, 9, 990, 5, 5);
        lay(0, 2, TOUCH, 0, 1);
        lay(1, 2, OVER, 0, 1);
        move(2, 2, 1, 999, 999);
        resize(STATE, 2, 0, 6, 4);
        resize(STATE, 2, 0, 4, 6);
        move(STATE, 2, 0, 999, 0);
        move(STATE, 2, 0, 0, 999);
        lay(STATE, 2, ALIGN, 0, 1);
        drop(OUT, 2, 2);
        at(0, 994, 994, 5, 5);
        at(1, 999, 999, 5, 5);
        acts(5);
        stands(4, 2);
        below(0, 2);
        isInForce(OUT, 2);
        lay(2, 3, WIDTH, 0, 1);
        resize(STATE, 3, 0, 5, 99);
        back(3, 0);
        resize(STATE, 3, 0, 5, 99);
        move(1, 3, 1, 0, 0);
        on(0, 0, 0);
        at(0, -5, -5, 5, 5);
        at(1, 0, 0, 5, 5);
        askAndMake(0, "b0:-5,-5,5,5;b1:0,0,5,5;r0;r1;r2;");
    }
}
