/** The edges of the map and its points, and of promises 1 to 4, a test for each sentence that names one. */
public final class EdgesOfPointsTest {
    private static final int INVALID = -1;
    private static final int FULL = -3;
    private static final Answers answers = new Answers();

    public static void main(String[] args) {
        aNewMapHasOneParish();
        aNewMapHasNoPoints();
        addTakesColumns0To63();
        addTakesRows0To63();
        addTakesAWealthOf1To100();
        addTakesFortyPoints();
        removedPointsLeaveNoRoom();
        undoMakesRoom();
        addNamesArgumentsBeforeRoom();
        numbersNeverChange();
        aRemovedPointDoesNotComeBack();
        severalPointsHaveOnePlace();
        removeTakesPointsThatThereAre();
        removeTellsHowManyAreLeft();
        moveTakesPointsThatThereAre();
        moveTakesColumns0To63();
        moveTakesRows0To63();
        moveAnswersOneBehindABorder();
        moveAnswersWhatIsBeforeASplit();
        answers.end();
    }

    /** "Creates a map with one parish": "at first there is the parish 0, of the whole map". */
    private static void aNewMapHasOneParish() {
        answers.dueFromTo("new, parish(n, 2)", 0, 0, n -> 0, n -> new TitheGrid().parish(n, 2));
        answers.due("new, count(2)", 1, new TitheGrid().count(2));
        answers.due("new, count(3)", 1, new TitheGrid().count(3));
        for (int x = 0; x < 64; x++) {
            TitheGrid grid = new TitheGrid();
            for (int y = 0; y < 64; y++) {
                answers.due("new, at(" + x + ", " + y + ")", 0, grid.at(x, y));
            }
        }
    }

    /** "... and no points." */
    private static void aNewMapHasNoPoints() {
        answers.dueRefused("new, point(n, 0)", n -> new TitheGrid().point(n, 0), 0, 1, 39, 40, -1);
        answers.due("new, count(0)", 0, new TitheGrid().count(0));
        answers.due("new, count(1)", 0, new TitheGrid().count(1));
        answers.due("new, count(9)", 0, new TitheGrid().count(9));
    }

    /** "x: 0 to 63" */
    private static void addTakesColumns0To63() {
        answers.dueFromTo("add(n, 5, 1)", 0, 63, n -> 0, n -> new TitheGrid().add(n, 5, 1));
        answers.dueFromTo("x of add(n, 5, 1)", 0, 63, n -> n, n -> {
            TitheGrid grid = new TitheGrid();
            grid.add(n, 5, 1);
            return grid.point(0, 0);
        });
    }

    /** "y: 0 to 63" */
    private static void addTakesRows0To63() {
        answers.dueFromTo("add(5, n, 1)", 0, 63, n -> 0, n -> new TitheGrid().add(5, n, 1));
        answers.dueFromTo("y of add(5, n, 1)", 0, 63, n -> n, n -> {
            TitheGrid grid = new TitheGrid();
            grid.add(5, n, 1);
            return grid.point(0, 1);
        });
    }

    /** "a wealth of 1 to 100" */
    private static void addTakesAWealthOf1To100() {
        answers.dueFromTo("add(5, 5, n)", 1, 100, n -> 0, n -> new TitheGrid().add(5, 5, n));
        answers.dueFromTo("wealth of add(5, 5, n)", 1, 100, n -> n, n -> {
            TitheGrid grid = new TitheGrid();
            grid.add(5, 5, n);
            return grid.point(0, 2);
        });
    }

    /** "There are at most 40 points, numbered from 0 in the order in which they were added" */
    private static void addTakesFortyPoints() {
        TitheGrid grid = new TitheGrid();
        for (int point = 0; point < 40; point++) {
            answers.due("add of the point " + point, point, grid.add(point, 63 - point, 100 - point));
        }
        answers.due("add of the point 40", FULL, grid.add(0, 0, 1));
        answers.due("add once more", FULL, grid.add(63, 63, 100));
        answers.due("count(0)", 40, grid.count(0));
        answers.due("count(1)", 40, grid.count(1));
        answers.due("point(39, 2)", 61, grid.point(39, 2));
    }

    /** "CAPACITY_EXCEEDED if 40 points have been added", those that were removed among them */
    private static void removedPointsLeaveNoRoom() {
        TitheGrid grid = Villages.fortyPoints();
        for (int point = 0; point < 40; point++) {
            answers.due("remove(" + point + ")", 39 - point, grid.remove(point));
            answers.due("add behind it", FULL, grid.add(0, 0, 1));
        }
        answers.due("count(0)", 0, grid.count(0));
        answers.due("count(1)", 40, grid.count(1));
        grid = new TitheGrid();
        for (int point = 0; point < 39; point++) {
            grid.add(0, 0, 1);
            grid.remove(point);
        }
        answers.due("add when 39 have been added and removed", 39, grid.add(0, 0, 1));
        answers.due("add when 40 have been added", FULL, grid.add(0, 0, 1));
    }

    /** "a state is everything but the history": the points that have been added too */
    private static void undoMakesRoom() {
        TitheGrid grid = Villages.fortyPoints();
        answers.due("add", FULL, grid.add(0, 0, 1));
        answers.due("undo()", 4, grid.undo());
        answers.due("count(1)", 39, grid.count(1));
        answers.due("add behind undo", 39, grid.add(0, 0, 1));
        answers.due("add behind it", FULL, grid.add(0, 0, 1));
    }

    /** "If several error conditions apply, the method returns the one that its description lists first" */
    private static void addNamesArgumentsBeforeRoom() {
        answers.dueFromTo("full, add(n, 5, 1)", 0, 63, n -> FULL, n -> Villages.fortyPoints().add(n, 5, 1));
        answers.dueFromTo("full, add(5, n, 1)", 0, 63, n -> FULL, n -> Villages.fortyPoints().add(5, n, 1));
        answers.dueFromTo("full, add(5, 5, n)", 1, 100, n -> FULL, n -> Villages.fortyPoints().add(5, 5, n));
        answers.due("full, add(-1, 64, 0)", INVALID, Villages.fortyPoints().add(-1, 64, 0));
    }

    /** "their numbers never change" */
    private static void numbersNeverChange() {
        TitheGrid grid = new TitheGrid();
        for (int point = 0; point < 4; point++) {
            grid.add(10 + point, 20, 30 + point);
        }
        grid.remove(0);
        grid.remove(2);
        answers.due("point(0, 0)", INVALID, grid.point(0, 0));
        answers.due("point(1, 0)", 11, grid.point(1, 0));
        answers.due("point(2, 0)", INVALID, grid.point(2, 0));
        answers.due("point(3, 2)", 33, grid.point(3, 2));
        answers.due("add", 4, grid.add(9, 9, 9));
        answers.due("point(3, 0)", 13, grid.point(3, 0));
    }

    /** "a point that is removed does not come back" and "does not exist" */
    private static void aRemovedPointDoesNotComeBack() {
        TitheGrid grid = new TitheGrid();
        grid.add(7, 7, 7);
        grid.remove(0);
        answers.due("add at its place", 1, grid.add(7, 7, 7));
        for (int what = 0; what < 5; what++) {
            answers.due("point(0, " + what + ")", INVALID, grid.point(0, what));
        }
        answers.due("remove(0) again", INVALID, grid.remove(0));
        answers.due("move(0, 7, 7)", INVALID, grid.move(0, 7, 7));
        answers.due("nearest(7, 7)", 1, grid.nearest(7, 7));
        answers.due("range(7, 7, 7, 7, 0)", 1, grid.range(7, 7, 7, 7, 0));
        answers.due("remove(1)", 0, grid.remove(1));
    }

    /** "several can have the same one": all forty */
    private static void severalPointsHaveOnePlace() {
        TitheGrid grid = Villages.fortyPoints();
        answers.due("range(63, 63, 63, 63, 0)", 40, grid.range(63, 63, 63, 63, 0));
        answers.due("range(63, 63, 63, 63, 1)", 4000, grid.range(63, 63, 63, 63, 1));
        answers.due("parish(0, 3)", 40, grid.parish(0, 3));
        answers.due("move(39, 0, 0)", 1, grid.move(39, 0, 0));
        answers.due("range(63, 63, 63, 63, 0) behind a move", 39, grid.range(63, 63, 63, 63, 0));
    }

    /** "point: a point", "INVALID_ARGUMENT if there is no such point" */
    private static void removeTakesPointsThatThereAre() {
        answers.dueFromTo("of forty, remove(n)", 0, 39, n -> 39, n -> Villages.fortyPoints().remove(n));
        answers.dueFromTo("of five, remove(n)", 0, 4, n -> 4, n -> Villages.make().remove(n));
        answers.dueFromTo("of none, remove(n)", 0, -1, n -> 0, n -> new TitheGrid().remove(n));
    }

    /** "Returns the number of points that are left", down to none */
    private static void removeTellsHowManyAreLeft() {
        TitheGrid grid = Villages.make();
        for (int point = 4; point >= 0; point--) {
            answers.due("remove(" + point + ")", point, grid.remove(point));
            answers.due("count(0)", point, grid.count(0));
            answers.due("count(1)", 5, grid.count(1));
        }
        answers.due("remove(0) again", INVALID, grid.remove(0));
    }

    /** "point: a point" */
    private static void moveTakesPointsThatThereAre() {
        answers.dueFromTo("of forty, move(n, 63, 63)", 0, 39, n -> 0, n -> Villages.fortyPoints().move(n, 63, 63));
        answers.dueFromTo("of four, move(n, 31, 31)", 0, 3, n -> n > 0 ? 1 : 0,
            n -> Villages.fourQuarters().move(n, 31, 31));
        answers.dueFromTo("of none, move(n, 0, 0)", 0, -1, n -> 0, n -> new TitheGrid().move(n, 0, 0));
    }

    /** "x: 0 to 63" */
    private static void moveTakesColumns0To63() {
        answers.dueFromTo("move(0, n, 1)", 0, 63, n -> n > 31 ? 1 : 0, n -> Villages.fourQuarters().move(0, n, 1));
        answers.dueFromTo("x of move(0, n, 1)", 0, 63, n -> n, n -> {
            TitheGrid grid = Villages.fourQuarters();
            return grid.move(0, n, 1) < 0 ? INVALID : grid.point(0, 0);
        });
    }

    /** "y: 0 to 63" */
    private static void moveTakesRows0To63() {
        answers.dueFromTo("move(0, 1, n)", 0, 63, n -> n > 31 ? 1 : 0, n -> Villages.fourQuarters().move(0, 1, n));
        answers.dueFromTo("y of move(0, 1, n)", 0, 63, n -> n, n -> {
            TitheGrid grid = Villages.fourQuarters();
            return grid.move(0, 1, n) < 0 ? INVALID : grid.point(0, 1);
        });
    }

    /** "Returns 1 if its lord is another one then ..., otherwise 0" */
    private static void moveAnswersOneBehindABorder() {
        TitheGrid grid = Villages.fourQuarters();
        answers.due("move(0, 31, 31), within its cell", 0, grid.move(0, 31, 31));
        answers.due("move(0, 31, 31), to the same place", 0, grid.move(0, 31, 31));
        answers.due("move(0, 32, 31), a column on", 1, grid.move(0, 32, 31));
        answers.due("move(0, 31, 31), a column back", 1, grid.move(0, 31, 31));
        answers.due("move(0, 31, 32), a row on", 1, grid.move(0, 31, 32));
        answers.due("move(0, 32, 32)", 1, grid.move(0, 32, 32));
        answers.due("move(0, 63, 63), within its cell", 0, grid.move(0, 63, 63));
    }

    /** "... (before any split)" */
    private static void moveAnswersWhatIsBeforeASplit() {
        TitheGrid grid = Villages.fourQuarters();
        grid.pay(1);
        grid.add(20, 1, 5);
        grid.add(1, 20, 5);
        answers.due("move(1, 20, 20), home to its lord 0", 0, grid.move(1, 20, 20));
        answers.due("its lord behind the split", 6, grid.point(1, 4));
        grid = Villages.fourQuarters();
        grid.add(20, 1, 5);
        grid.add(1, 20, 5);
        answers.due("move(1, 20, 20), from its lord 1 to 0", 1, grid.move(1, 20, 20));
        answers.due("its lord behind the split", 6, grid.point(1, 4));
        grid.undo();
        answers.due("move(1, 5, 5), from its lord 1 to 0", 1, grid.move(1, 5, 5));
        answers.due("its lord, which keeps the quarter", 0, grid.point(1, 4));
    }
}
