/** Calls on a board, and what they answer. */
public final class Example {
    public static void main(String[] args) {
        Sketchlock board = new Sketchlock();

        // The drawers 0 to 3 add shapes, which are numbered from 0.
        show(board.addBox(0, 0, 0, 5, 4)); // 0: a box at 0, 0, which is 5 wide and 4 high
        show(board.addBox(1, 20, 7, 3, 9)); // 1
        show(board.spell(26)); // 2: the letter 26 is a pair of chars
        show(board.clearSpelled()); // 1
        show(board.spell(7)); // 1
        show(board.spell(8)); // 2: the text is hi
        show(board.addLabel(2, 40, 30, true)); // 2: a label, turned round

        // Rules on two shapes move the other one along, as do moves and sizes later on.
        show(board.lay(1, Sketchlock.TOUCH, 0, 1)); // 0: the box 1 stands to the right of the box 0
        show(board.number(1, 0)); // 5: its x
        show(board.lay(2, Sketchlock.LEVEL, 1, 2)); // 1: the label has the y of the box 1
        show(board.resize(0, 0, 8, 4)); // 2: the box 1 has made room
        show(board.move(3, 2, 50, 7)); // 1: the label alone
        show(board.move(3, 2, 40, 0)); // 2: the box 1 has the same y still
        show(board.part(2, false)); // 2: the shapes that one y moves
        show(board.holds(0)); // true

        // An export shows the board as it was when it was asked for.
        show(board.ask()); // 0
        show(board.drop(3, 0)); // 1: one rule is left in force
        show(board.make()); // 0
        show(textOf(board, 0)); // b0:0,0,8,4;b1:8,0,3,9;t2:40,0,4,2,ih;r0;r1;

        // Each drawer goes back and on in its own tree; acts that cannot be done by then are void.
        show(board.acts()); // 9
        show(board.standsAt(1)); // 3: the act that laid the rule 0
        show(board.back(1)); // 1: the drop of that rule is void
        show(board.back(1)); // 2: so is the rule 1, without the box 1
        show(board.isThere(1)); // false
        show(board.broken()); // 1
        show(board.below(1)); // 2
        show(board.on(1, 0)); // 1: back to the box, but not to the rule 0
        show(board.isInForce(1)); // true
        show(board.number(1, 0)); // 20
        show(board.numberAnew(1, 0)); // 20: the same, with all acts done anew
        show(board.isVoid(8)); // true

        // A call that cannot be done throws, and changes nothing.
        try {
            board.addBox(0, 1000, 0, 5, 4);
        } catch (IllegalArgumentException refused) {
            show(refused.getClass().getSimpleName()); // IllegalArgumentException
        }
        show(board.acts()); // 9
    }

    private static String textOf(Sketchlock board, int export) {
        StringBuilder text = new StringBuilder();
        for (int at = 0; at < board.length(export); at++) {
            text.append(board.charAt(export, at));
        }
        return text.toString();
    }

    private static void show(Object answer) {
        System.out.println(answer);
    }
}
