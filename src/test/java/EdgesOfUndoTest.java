import java.util.List;
import java.util.function.ToIntFunction;

/** The edges of the history and of promises 5, 6 and 9, a test for each sentence that names one. */
public final class EdgesOfUndoTest {
    private static final int INVALID = -1;
    private static final int STATE = -2;
    private static final Answers answers = new Answers();

    public static void main(String[] args) {
        setCrowdTakes2To9();
        setCrowdAnswersTheOneBefore();
        setTitheTakes1To9();
        setTitheAnswersTheOneBefore();
        undoRefusesAnEmptyHistory();
        undoAnswersTheStatesThatAreLeft();
        fiveStatesAreKept();
        theSixthDropsTheOldest();
        theSixthTimeSix();
        eachActionIsRecorded();
        actionsThatChangeNothingAreRecorded();
        callsThatLookAreNotRecorded();
        undoIsNotRecorded();
        undoTakesAllSplitsBack();
        undoRestoresCrowdAndTithe();
        undoRestoresPoints();
        undoRestoresDebtsAndLords();
        undoRestoresDissolvedParishes();
        undoBringsARemovedPointBack();
        undoneNumbersAreGivenAgain();
        anActionBehindUndoGoesOnFromThere();
        theLastCallThatIsPromised();
        answers.end();
    }

    /** "crowd: 2 to 9" */
    private static void setCrowdTakes2To9() {
        answers.dueFromTo("setCrowd(n)", 2, 9, n -> 4, n -> new TitheGrid().setCrowd(n));
        answers.dueFromTo("count(4) behind setCrowd(n)", 2, 9, n -> n, n -> {
            TitheGrid grid = new TitheGrid();
            return grid.setCrowd(n) < 0 ? INVALID : grid.count(4);
        });
    }

    /** "Returns the previous crowd" */
    private static void setCrowdAnswersTheOneBefore() {
        TitheGrid grid = new TitheGrid();
        int previous = 4;
        for (int crowd : new int[] {2, 9, 9, 3, 8, 2, 2}) {
            answers.due("setCrowd(" + crowd + ")", previous, grid.setCrowd(crowd));
            answers.due("setCrowd(10)", INVALID, grid.setCrowd(10));
            answers.due("setCrowd(1)", INVALID, grid.setCrowd(1));
            previous = crowd;
        }
    }

    /** "tithe: 1 to 9" */
    private static void setTitheTakes1To9() {
        answers.dueFromTo("setTithe(n)", 1, 9, n -> 3, n -> new TitheGrid().setTithe(n));
        answers.dueFromTo("count(5) behind setTithe(n)", 1, 9, n -> n, n -> {
            TitheGrid grid = new TitheGrid();
            return grid.setTithe(n) < 0 ? INVALID : grid.count(5);
        });
    }

    /** "Returns the previous tithe" */
    private static void setTitheAnswersTheOneBefore() {
        TitheGrid grid = new TitheGrid();
        int previous = 3;
        for (int tithe : new int[] {1, 9, 9, 2, 8, 1, 1}) {
            answers.due("setTithe(" + tithe + ")", previous, grid.setTithe(tithe));
            answers.due("setTithe(10)", INVALID, grid.setTithe(10));
            answers.due("setTithe(0)", INVALID, grid.setTithe(0));
            previous = tithe;
        }
    }

    /** "ILLEGAL_STATE if it is empty" */
    private static void undoRefusesAnEmptyHistory() {
        TitheGrid grid = new TitheGrid();
        answers.due("new, undo()", STATE, grid.undo());
        answers.due("new, undo() again", STATE, grid.undo());
        answers.due("add", 0, grid.add(5, 5, 5));
        answers.due("undo()", 0, grid.undo());
        answers.due("undo() of nothing", STATE, grid.undo());
        answers.due("count(10)", 0, grid.count(10));
        answers.due("count(1)", 0, grid.count(1));
    }

    /** "Returns the number of states that are left in the history" */
    private static void undoAnswersTheStatesThatAreLeft() {
        for (int actions = 1; actions <= 5; actions++) {
            TitheGrid grid = new TitheGrid();
            for (int point = 0; point < actions; point++) {
                grid.add(point, point, 1);
                answers.due("count(10)", point + 1, grid.count(10));
            }
            for (int left = actions - 1; left >= 0; left--) {
                answers.due(actions + " actions, undo()", left, grid.undo());
                answers.due("count(10)", left, grid.count(10));
                answers.due("count(1)", left, grid.count(1));
            }
            answers.due(actions + " actions, undo() once more", STATE, grid.undo());
        }
    }

    /** "A history of at most 5 states is kept": the fifth drops none */
    private static void fiveStatesAreKept() {
        TitheGrid grid = new TitheGrid();
        for (int tithe = 4; tithe <= 8; tithe++) {
            grid.setTithe(tithe);
        }
        answers.due("count(10)", 5, grid.count(10));
        for (int undo = 0; undo < 5; undo++) {
            grid.undo();
        }
        answers.due("count(5), as at first", 3, grid.count(5));
        answers.due("undo()", STATE, grid.undo());
    }

    /** "when a sixth one is recorded, the oldest one is dropped" */
    private static void theSixthDropsTheOldest() {
        TitheGrid grid = new TitheGrid();
        for (int tithe = 4; tithe <= 9; tithe++) {
            grid.setTithe(tithe);
        }
        answers.due("count(10)", 5, grid.count(10));
        for (int left = 4; left >= 0; left--) {
            answers.due("undo()", left, grid.undo());
            answers.due("count(5)", 4 + left, grid.count(5));
        }
        answers.due("undo()", STATE, grid.undo());
        answers.due("count(5), as behind the first action", 4, grid.count(5));
    }

    /** The oldest one is dropped as often as there is one too many, and room that undo makes is used first. */
    private static void theSixthTimeSix() {
        TitheGrid grid = new TitheGrid();
        for (int point = 0; point < 36; point++) {
            grid.add(point, point, 1);
            answers.due("count(10)", Math.min(5, point + 1), grid.count(10));
        }
        grid.undo();
        grid.undo();
        answers.due("count(10)", 3, grid.count(10));
        grid.setTithe(9);
        grid.setTithe(8);
        answers.due("count(10)", 5, grid.count(10));
        grid.setTithe(7);
        answers.due("count(10)", 5, grid.count(10));
        int[] points = {34, 34, 34, 33, 32};
        int[] tithes = {8, 9, 3, 3, 3};
        for (int undo = 0; undo < 5; undo++) {
            answers.due("undo()", 4 - undo, grid.undo());
            answers.due("count(1)", points[undo], grid.count(1));
            answers.due("count(5)", tithes[undo], grid.count(5));
        }
        answers.due("undo()", STATE, grid.undo());
    }

    /** Two points, and a state in the history. */
    private static TitheGrid recording() {
        TitheGrid grid = new TitheGrid();
        for (int point = 0; point < 5; point++) {
            grid.add(point % 4 * 21, point, 1);
        }
        grid.setCrowd(6);
        for (int undo = 0; undo < 4; undo++) {
            grid.undo();
        }
        return grid;
    }

    private static void dueRecorded(String call, int states, TitheGrid grid, ToIntFunction<TitheGrid> called) {
        int before = grid.count(10);
        answers.dueTrue(call + " is taken", called.applyAsInt(grid) >= 0);
        answers.due("states that " + call + " records", states, grid.count(10) - before);
    }

    /** "Every successful call of a method that is called an action records the state before it" */
    private static void eachActionIsRecorded() {
        dueRecorded("add", 1, recording(), grid -> grid.add(1, 1, 1));
        dueRecorded("remove", 1, recording(), grid -> grid.remove(0));
        dueRecorded("move", 1, recording(), grid -> grid.move(0, 9, 9));
        dueRecorded("setCrowd", 1, recording(), grid -> grid.setCrowd(8));
        dueRecorded("setTithe", 1, recording(), grid -> grid.setTithe(8));
        dueRecorded("pay", 1, recording(), grid -> grid.pay(0));
        TitheGrid grid = Villages.theSecondIsSplit();
        grid.undo();
        grid.undo();
        grid.remove(1);
        dueRecorded("join", 1, grid, map -> map.join(0));
    }

    /** "(also if nothing changes by it)" */
    private static void actionsThatChangeNothingAreRecorded() {
        List<ToIntFunction<TitheGrid>> calls = List.of(map -> map.setCrowd(map.count(4)), map -> map.setTithe(map.count(5)),
            map -> map.pay(0), map -> map.move(0, 0, 0));
        for (ToIntFunction<TitheGrid> call : calls) {
            TitheGrid grid = new TitheGrid();
            grid.add(0, 0, 1);
            for (int states = 2; states <= 5; states++) {
                dueRecorded("a call without effect", 1, grid, call);
                answers.due("count(10)", states, grid.count(10));
            }
            dueRecorded("the sixth call", 0, grid, call);
            for (int left = 4; left >= 0; left--) {
                answers.due("undo()", left, grid.undo());
                answers.due("count(1), as the add is dropped from the history", 1, grid.count(1));
            }
        }
    }

    /** "ranges and what could be, which change nothing", and what only looks */
    private static void callsThatLookAreNotRecorded() {
        TitheGrid grid = recording();
        int before = grid.count(10);
        grid.count(0);
        grid.point(0, 0);
        grid.parish(0, 0);
        grid.debt(0, 0);
        grid.at(0, 0);
        grid.range(0, 0, 63, 63, 0);
        grid.nearest(0, 0);
        grid.inOrder(0);
        grid.payable(0);
        grid.cellsWith(2);
        grid.joinable();
        answers.due("count(10)", before, grid.count(10));
    }

    /** undo is not called an action: it cannot be undone. */
    private static void undoIsNotRecorded() {
        TitheGrid grid = new TitheGrid();
        grid.setTithe(7);
        grid.setTithe(8);
        answers.due("undo()", 1, grid.undo());
        answers.due("count(5)", 7, grid.count(5));
        answers.due("undo()", 0, grid.undo());
        answers.due("count(5)", 3, grid.count(5));
        answers.due("undo()", STATE, grid.undo());
        answers.due("count(5)", 3, grid.count(5));
    }

    /** The splits behind an action belong to it. */
    private static void undoTakesAllSplitsBack() {
        TitheGrid grid = new TitheGrid();
        for (int point = 0; point < 5; point++) {
            grid.add(63, 63, 1);
        }
        answers.due("count(3)", 13, grid.count(3));
        answers.due("undo()", 4, grid.undo());
        answers.due("count(2)", 1, grid.count(2));
        answers.due("count(3)", 1, grid.count(3));
        answers.due("count(8)", 0, grid.count(8));
        for (int what = 0; what < 3; what++) {
            answers.due("parish(0, " + what + ")", 0, grid.parish(0, what));
        }
        answers.due("at(63, 63)", 0, grid.at(63, 63));
        answers.dueFromTo("parish(n, 2)", 0, 0, n -> 0, n -> grid.parish(n, 2));
    }

    /** "restores it": the crowd and the tithe, and no split is made behind it */
    private static void undoRestoresCrowdAndTithe() {
        TitheGrid grid = new TitheGrid();
        grid.setCrowd(9);
        for (int point = 0; point < 9; point++) {
            grid.add(point * 7, 63 - point * 7, 1);
        }
        grid.setTithe(1);
        grid.setCrowd(3);
        answers.dueTrue("count(3) with the crowd 3", grid.count(3) > 1);
        answers.due("undo()", 4, grid.undo());
        answers.due("count(4)", 9, grid.count(4));
        answers.due("count(5)", 1, grid.count(5));
        answers.due("count(3)", 1, grid.count(3));
        answers.due("count(6)", 0, grid.count(6));
        answers.due("undo()", 3, grid.undo());
        answers.due("count(5)", 3, grid.count(5));
        answers.due("count(0)", 9, grid.count(0));
    }

    /** "a state is everything but the history": place, wealth, lord and number of points */
    private static void undoRestoresPoints() {
        TitheGrid grid = Villages.fourQuarters();
        grid.move(1, 3, 63);
        answers.due("point(1, 4)", 2, grid.point(1, 4));
        answers.due("undo()", 4, grid.undo());
        int[] point = {40, 2, 9, 1, 1};
        for (int what = 0; what < 5; what++) {
            answers.due("point(1, " + what + ")", point[what], grid.point(1, what));
        }
    }

    /** "a state is everything but the history": debts and lords */
    private static void undoRestoresDebtsAndLords() {
        TitheGrid grid = Villages.fourQuarters();
        grid.pay(1);
        answers.due("debt(1, 0)", 0, grid.debt(1, 0));
        answers.due("undo()", 4, grid.undo());
        answers.due("debt(1, 0)", 1, grid.debt(1, 0));
        answers.due("point(1, 4)", 1, grid.point(1, 4));
        answers.due("count(6)", 3, grid.count(6));
        answers.due("payable(1)", 1, grid.payable(1));
        answers.due("pay(1) again", 1, grid.pay(1));
    }

    /** "a state is everything but the history": cells and parishes, dissolved ones too */
    private static void undoRestoresDissolvedParishes() {
        TitheGrid grid = Villages.fourQuarters();
        grid.setCrowd(4);
        answers.due("join(3)", 0, grid.join(3));
        answers.due("parish(3, 2)", INVALID, grid.parish(3, 2));
        answers.due("undo()", 4, grid.undo());
        for (int parish = 0; parish < 4; parish++) {
            answers.due("at, in the quarter " + parish, parish, grid.at(parish % 2 * 63, parish / 2 * 63));
            answers.due("parish(" + parish + ", 2)", 1, grid.parish(parish, 2));
            answers.due("parish(" + parish + ", 4)", 1, grid.parish(parish, 4));
            answers.due("parish(" + parish + ", 6)", parish == 0 ? 0 : 1, grid.parish(parish, 6));
        }
        answers.due("count(2)", 4, grid.count(2));
        answers.due("join(3) again", 0, grid.join(3));
    }

    /** A removed point does not come back but with the state in which it was there. */
    private static void undoBringsARemovedPointBack() {
        TitheGrid grid = Villages.fourQuarters();
        answers.due("remove(2)", 3, grid.remove(2));
        answers.due("point(2, 2)", INVALID, grid.point(2, 2));
        answers.due("undo()", 4, grid.undo());
        int[] point = {2, 33, 9, 2, 2};
        for (int what = 0; what < 5; what++) {
            answers.due("point(2, " + what + ")", point[what], grid.point(2, what));
        }
        answers.due("remove(2) again", 3, grid.remove(2));
    }

    /** Points and parishes are numbered on from the state that is restored. */
    private static void undoneNumbersAreGivenAgain() {
        TitheGrid grid = new TitheGrid();
        grid.setCrowd(2);
        grid.add(0, 0, 1);
        grid.add(1, 63, 2);
        answers.due("add", 2, grid.add(62, 1, 3));
        answers.due("count(3)", 4, grid.count(3));
        answers.due("undo()", 3, grid.undo());
        answers.due("point(2, 2)", INVALID, grid.point(2, 2));
        answers.due("add elsewhere", 2, grid.add(2, 62, 4));
        answers.due("point(2, 2)", 4, grid.point(2, 2));
        answers.due("count(3)", 4, grid.count(3));
        answers.due("at(0, 63), the fullest quarter", 0, grid.at(0, 63));
        answers.due("at(0, 0), the first one founded", 1, grid.at(0, 0));
    }

    /** The states that undo left are there still, and the ones that it removed are not. */
    private static void anActionBehindUndoGoesOnFromThere() {
        TitheGrid grid = new TitheGrid();
        grid.setTithe(5);
        grid.setTithe(6);
        grid.setTithe(7);
        grid.undo();
        answers.due("setTithe(9)", 6, grid.setTithe(9));
        int[] tithes = {6, 5, 3};
        for (int undo = 0; undo < 3; undo++) {
            answers.due("undo()", 2 - undo, grid.undo());
            answers.due("count(5)", tithes[undo], grid.count(5));
        }
        answers.due("undo()", STATE, grid.undo());
    }

    /** "An object is used for at most 512 calls": the last one is answered as the first. */
    private static void theLastCallThatIsPromised() {
        TitheGrid grid = new TitheGrid();
        for (int call = 0; call < 510; call++) {
            answers.due("call " + call, call == 0 ? 3 : 1 + (call - 1) % 9, grid.setTithe(1 + call % 9));
        }
        answers.due("undo(), the call before the last", 4, grid.undo());
        answers.due("count(5), the last call", 5, grid.count(5));
    }
}
