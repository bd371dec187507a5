/** Long runs of calls, made by a fixed row of numbers, answered by the class and by the model. */
final class ModelTest {
    private static final int RUNS = 400;
    private static final int CALLS = 512;

    private final Checks checks;
    private final int run;
    private final Sketchlock board = new Sketchlock();
    private final Model model = new Model();
    private final StringBuilder story = new StringBuilder();
    private final int shapesWanted;
    private long seed;

    private ModelTest(Checks checks, int run) {
        this.checks = checks;
        this.run = run;
        seed = run * 7919L + 12345L;
        shapesWanted = run % 3 == 0 ? 10 : 2 + below(6);
    }

    public static void main(String[] args) {
        Checks checks = new Checks();
        int runs = args.length > 0 ? Integer.parseInt(args[0]) : RUNS;
        for (int run = 0; run < runs && !checks.hasFailed(); run++) {
            new ModelTest(checks, run).play();
        }
        checks.end("ModelTest");
    }

    private int below(int bound) {
        seed = seed * 6364136223846793005L + 1442695040888963407L;
        return (int) Math.floorMod(seed >>> 33, (long) bound);
    }

    private void same(String call, Checks.Call asked, Checks.Call due) {
        if (checks.hasFailed()) {
            return;
        }
        String want = Checks.answerOf(due);
        story.append(call).append(" = ").append(want).append('\n');
        checks.same("run " + run + ": " + call, want, Checks.answerOf(asked));
        if (checks.hasFailed()) {
            System.out.print(story);
        }
    }

    private void play() {
        for (int call = 0; call < CALLS; call++) {
            int turn = below(100);
            if (turn < 55) {
                change();
            } else if (turn < 70) {
                askTrees();
            } else if (turn < 90) {
                askBoard();
            } else {
                export();
            }
        }
    }

    // ---- numbers, seldom wrong ones

    private int drawer() {
        return below(40) == 0 ? below(2) * 5 - 1 : below(4);
    }

    private int shape() {
        return below(40) == 0 ? below(12) - 1 : below(Math.max(1, shapesMade()));
    }

    private int shapesMade() {
        int made = 0;
        while (made < 10 && !Checks.answerOf(atShape(made)).startsWith("throws")) {
            made++;
        }
        return made;
    }

    private Checks.Call atShape(int shape) {
        return () -> model.isThere(shape);
    }

    private int rule() {
        return below(10 + run % 3 * 2) - 1 + below(3);
    }

    /** Every other run lays the kinds that join for x or y, with ties, more often: parts with rings come of that. */
    private int kind() {
        int turn = below(30);
        if (turn == 0) {
            return below(2) * 8 - 1;
        }
        if (run % 2 == 0 || turn < 8) {
            return below(7);
        }
        int[] joining = {Sketchlock.TIE, run % 4 == 1 ? Sketchlock.TOUCH : Sketchlock.OVER,
            run % 4 == 1 ? Sketchlock.WIDTH : Sketchlock.HEIGHT};
        return joining[below(3)];
    }

    private int place() {
        int kind = below(20);
        if (kind == 0) {
            return below(2) == 0 ? -1000 + below(3) : 998 + below(3);
        }
        switch (run / 4 % 4) {
            case 0:
                return below(13) - 6;
            case 1:
                return 985 + below(15);
            case 2:
                return -999 + below(15);
            default:
                return below(1999) - 999;
        }
    }

    private int size() {
        int kind = below(20);
        return kind == 0 ? below(2) * 99 + below(2) : run % 5 == 3 ? 1 + below(99) : 1 + below(6);
    }

    // ---- calls

    private void change() {
        int drawer = drawer();
        boolean isEnough = shapesMade() >= shapesWanted;
        switch (isEnough ? 4 + below(16) : below(20)) {
            case 0:
            case 1: {
                int x = place(), y = place(), width = size(), height = size();
                same("addBox(" + drawer + ", " + x + ", " + y + ", " + width + ", " + height + ")",
                        () -> board.addBox(drawer, x, y, width, height),
                        () -> model.addBox(drawer, x, y, width, height));
                return;
            }
            case 2: {
                int x = place(), y = place();
                boolean isTurned = below(2) == 0;
                same("addLabel(" + drawer + ", " + x + ", " + y + ", " + isTurned + ")",
                        () -> board.addLabel(drawer, x, y, isTurned), () -> model.addLabel(drawer, x, y, isTurned));
                return;
            }
            case 3:
                spell();
                return;
            case 4:
            case 5: {
                int shape = shape(), x = place(), y = place();
                same("move(" + drawer + ", " + shape + ", " + x + ", " + y + ")",
                        () -> board.move(drawer, shape, x, y), () -> model.move(drawer, shape, x, y));
                return;
            }
            case 6:
            case 7: {
                int shape = shape(), width = size(), height = size();
                same("resize(" + drawer + ", " + shape + ", " + width + ", " + height + ")",
                        () -> board.resize(drawer, shape, width, height),
                        () -> model.resize(drawer, shape, width, height));
                return;
            }
            case 8:
            case 9:
            case 10: {
                int kind = kind(), shape = shape(), other = shape();
                same("lay(" + drawer + ", " + kind + ", " + shape + ", " + other + ")",
                        () -> board.lay(drawer, kind, shape, other), () -> model.lay(drawer, kind, shape, other));
                return;
            }
            case 11: {
                int rule = rule();
                same("drop(" + drawer + ", " + rule + ")",
                        () -> board.drop(drawer, rule), () -> model.drop(drawer, rule));
                return;
            }
            case 12:
            case 13:
            case 14:
            case 15:
                same("back(" + drawer + ")", () -> board.back(drawer), () -> model.back(drawer));
                return;
            default: {
                int branch = below(3) == 0 ? below(4) - 1 : 0;
                same("on(" + drawer + ", " + branch + ")",
                        () -> board.on(drawer, branch), () -> model.on(drawer, branch));
            }
        }
    }

    private void spell() {
        int letter = below(3) == 0 ? 26 : below(29) - 1;
        if (below(6) == 0) {
            same("clearSpelled()", () -> board.clearSpelled(), () -> model.clearSpelled());
        } else {
            same("spell(" + letter + ")", () -> board.spell(letter), () -> model.spell(letter));
        }
    }

    private void askTrees() {
        int drawer = drawer();
        int act = below(62) - 1;
        switch (below(6)) {
            case 0:
                same("branches(" + drawer + ")", () -> board.branches(drawer), () -> model.branches(drawer));
                return;
            case 1:
                same("below(" + drawer + ")", () -> board.below(drawer), () -> model.below(drawer));
                return;
            case 2:
                same("standsAt(" + drawer + ")", () -> board.standsAt(drawer), () -> model.standsAt(drawer));
                return;
            case 3:
                same("acts()", () -> board.acts(), () -> model.acts());
                return;
            case 4:
                same("counts(" + act + ")", () -> board.counts(act), () -> model.counts(act));
                return;
            default:
                same("isVoid(" + act + ")", () -> board.isVoid(act), () -> model.isVoid(act));
        }
    }

    private void askBoard() {
        int shape = shape();
        int rule = rule();
        int what = below(30) == 0 ? below(2) * 5 - 1 : below(4);
        boolean isForX = below(2) == 0;
        switch (below(8)) {
            case 0:
                same("isThere(" + shape + ")", () -> board.isThere(shape), () -> model.isThere(shape));
                return;
            case 1:
                same("isInForce(" + rule + ")", () -> board.isInForce(rule), () -> model.isInForce(rule));
                return;
            case 2:
            case 3:
                same("holds(" + rule + ")", () -> board.holds(rule), () -> model.holds(rule));
                return;
            case 4:
                same("broken()", () -> board.broken(), () -> model.broken());
                return;
            case 5:
                same("part(" + shape + ", " + isForX + ")",
                        () -> board.part(shape, isForX), () -> model.part(shape, isForX));
                return;
            case 6:
                same("number(" + shape + ", " + what + ")",
                        () -> board.number(shape, what), () -> model.number(shape, what));
                return;
            default:
                same("numberAnew(" + shape + ", " + what + ")",
                        () -> board.numberAnew(shape, what), () -> model.number(shape, what));
        }
    }

    private void export() {
        int export = below(12) - 1;
        int at = below(80) - 1;
        switch (below(10)) {
            case 0:
                same("ask()", () -> board.ask(), () -> model.ask());
                return;
            case 1:
                same("make()", () -> board.make(), () -> model.make());
                return;
            case 2:
            case 3:
                same("length(" + export + ")", () -> board.length(export), () -> model.length(export));
                return;
            case 4:
            case 5:
            case 6:
                same("charAt(" + export + ", " + at + ")",
                        () -> board.charAt(export, at), () -> model.charAt(export, at));
                return;
            default:
                same("charAnew(" + export + ", " + at + ")",
                        () -> board.charAnew(export, at), () -> model.charAt(export, at));
        }
    }
}
