/** Promises 5 to 9: setCrowd, setTithe, pay, join, undo. */
public final class ParishesTest {
    private static final Answers answers = new Answers();

    public static void main(String[] args) {
        setCrowdAnswersThePreviousOne();
        setTitheAnswersThePreviousOne();
        payGivesThePoorestFirst();
        payGivesTheSmallestNumberOfEquals();
        payIsBoundByPoints();
        payGivesOnlyOwnPointsInTheCell();
        payRefusesWrongParishes();
        joinGivesTheWholeCell();
        joinTellsWhenItCannot();
        joinKeepsDebtsToOthers();
        joinPassesLordsOnEverywhere();
        undoRestoresAll();
        undoRestoresPlacesAndCells();
        undoKeepsFiveStates();
        errorsAreNotRecorded();
        answers.end();
    }

    private static void setCrowdAnswersThePreviousOne() {
        TitheGrid grid = new TitheGrid();
        answers.due("5: setCrowd(2)", 4, grid.setCrowd(2));
        answers.due("5: setCrowd(9)", 2, grid.setCrowd(9));
        answers.due("5: setCrowd(9)", 9, grid.setCrowd(9));
        answers.due("5: count(10)", 3, grid.count(10));
        int[] wrong = {1, 10, 0, -1, Integer.MIN_VALUE, Integer.MAX_VALUE};
        for (int crowd : wrong) {
            answers.due("5: setCrowd(" + crowd + ")", -1, grid.setCrowd(crowd));
        }
        answers.due("5: count(4)", 9, grid.count(4));
        answers.due("5: count(10)", 3, grid.count(10));
    }

    private static void setTitheAnswersThePreviousOne() {
        TitheGrid grid = new TitheGrid();
        answers.due("6: setTithe(1)", 3, grid.setTithe(1));
        answers.due("6: setTithe(9)", 1, grid.setTithe(9));
        answers.due("6: setTithe(9)", 9, grid.setTithe(9));
        answers.due("6: count(10)", 3, grid.count(10));
        int[] wrong = {0, 10, -1, Integer.MIN_VALUE, Integer.MAX_VALUE};
        for (int tithe : wrong) {
            answers.due("6: setTithe(" + tithe + ")", -1, grid.setTithe(tithe));
        }
        answers.due("6: count(5)", 9, grid.count(5));
        answers.due("6: count(10)", 3, grid.count(10));
    }

    private static void payGivesThePoorestFirst() {
        TitheGrid grid = Villages.threeInTheSecond(2, 9, 1, 5);
        answers.due("7: debt(1, 0)", 2, grid.debt(1, 0));
        answers.due("18: payable(1)", 2, grid.payable(1));
        answers.due("7: pay(1)", 2, grid.pay(1));
        answers.due("7: point(4, 4)", 1, grid.point(4, 4));
        answers.due("7: point(5, 4)", 0, grid.point(5, 4));
        answers.due("7: point(6, 4)", 0, grid.point(6, 4));
        answers.due("7: point(5, 3)", 1, grid.point(5, 3));
        answers.due("7: debt(1, 0)", 0, grid.debt(1, 0));
        answers.due("7: pay(1) again", 0, grid.pay(1));
        answers.due("7: pay(0)", 0, grid.pay(0));
        answers.due("7: undo of a pay that gave nothing", 4, grid.undo());
    }

    private static void payGivesTheSmallestNumberOfEquals() {
        TitheGrid grid = Villages.threeInTheSecond(3, 7, 5, 5);
        answers.due("7: pay(1)", 1, grid.pay(1));
        answers.due("7: point(4, 4)", 1, grid.point(4, 4));
        answers.due("7: point(5, 4)", 0, grid.point(5, 4));
        answers.due("7: point(6, 4)", 1, grid.point(6, 4));
    }

    private static void payIsBoundByPoints() {
        TitheGrid grid = Villages.threeInTheSecond(1, 100, 100, 100);
        answers.due("7: debt(1, 0)", 3, grid.debt(1, 0));
        grid.remove(4);
        answers.due("18: payable(1)", 2, grid.payable(1));
        answers.due("7: pay(1)", 2, grid.pay(1));
        answers.due("7: debt(1, 0)", 1, grid.debt(1, 0));
        grid.add(50, 20, 100);
        grid.add(50, 21, 1);
        answers.due("18: payable(1)", 1, grid.payable(1));
        answers.due("7: pay(1)", 1, grid.pay(1));
        answers.due("7: point(7, 4)", 1, grid.point(7, 4));
        answers.due("7: point(8, 4)", 0, grid.point(8, 4));
    }

    private static void payGivesOnlyOwnPointsInTheCell() {
        TitheGrid grid = Villages.theSecondIsSplit();
        answers.due("7: debt(1, 0)", 1, grid.debt(1, 0));
        answers.due("7: debt(4, 1)", 1, grid.debt(4, 1));
        answers.due("7: pay(4)", 1, grid.pay(4));
        answers.due("7: point(3, 3)", 4, grid.point(3, 3));
        answers.due("7: point(3, 4)", 1, grid.point(3, 4));
        answers.due("7: pay(1), with a poorer point elsewhere", 1, grid.pay(1));
        answers.due("7: point(2, 4)", 0, grid.point(2, 4));
        answers.due("7: point(3, 4)", 1, grid.point(3, 4));
        grid.undo();
        grid.remove(2);
        grid.remove(4);
        answers.due("18: payable(1), with a point elsewhere alone", 0, grid.payable(1));
        answers.due("7: pay(1), with a point elsewhere alone", 0, grid.pay(1));
        answers.due("7: debt(1, 0)", 1, grid.debt(1, 0));
    }

    private static void payRefusesWrongParishes() {
        TitheGrid grid = new TitheGrid();
        int[] wrong = {1, -1, 39, 40, Integer.MIN_VALUE, Integer.MAX_VALUE};
        for (int parish : wrong) {
            answers.due("7: pay(" + parish + ")", -1, grid.pay(parish));
            answers.due("8: join(" + parish + ")", -1, grid.join(parish));
        }
        answers.due("7: count(10)", 0, grid.count(10));
    }

    private static void joinGivesTheWholeCell() {
        for (int asked = 0; asked < 4; asked++) {
            TitheGrid grid = Villages.threeInTheSecond(2, 9, 1, 5);
            grid.setCrowd(7);
            answers.due("8: join(" + asked + ")", 0, grid.join(asked));
            answers.due("8: count(2)", 1, grid.count(2));
            answers.due("8: count(3)", 4, grid.count(3));
            answers.due("8: count(6)", 0, grid.count(6));
            answers.due("8: count(7)", 0, grid.count(7));
            answers.due("8: count(8)", 0, grid.count(8));
            answers.due("8: parish(0, 0)", 0, grid.parish(0, 0));
            answers.due("8: parish(0, 2)", 0, grid.parish(0, 2));
            answers.due("8: parish(0, 4)", 7, grid.parish(0, 4));
            answers.due("8: at(63, 63)", 0, grid.at(63, 63));
            for (int parish = 1; parish < 4; parish++) {
                answers.due("8: join of a dissolved parish", -1, grid.join(parish));
                answers.due("7: pay of a dissolved parish", -1, grid.pay(parish));
                answers.due("12: property of a dissolved parish", -1, grid.parish(parish, 0));
                answers.due("13: debt of a dissolved parish", -1, grid.debt(parish, 0));
                answers.due("13: debt to a dissolved parish", -1, grid.debt(0, parish));
                answers.due("18: payable of a dissolved parish", -1, grid.payable(parish));
            }
            answers.due("8: join(0) of the whole map", -2, grid.join(0));
            grid.setCrowd(6);
            answers.due("8: the next parish that is founded", 4, grid.at(63, 0));
        }
    }

    private static void joinTellsWhenItCannot() {
        TitheGrid grid = new TitheGrid();
        answers.due("8: join(0) of the whole map", -2, grid.join(0));
        answers.due("8: join(1)", -1, grid.join(1));
        grid = Villages.threeInTheSecond(2, 9, 1, 5);
        answers.due("8: join(0) with more points than the crowd", -2, grid.join(0));
        answers.due("8: count(10)", 5, grid.count(10));
        grid.setCrowd(3);
        answers.due("8: parish(0, 2)", 4, grid.parish(0, 2));
        answers.due("8: join(2), with quarters that are split", -2, grid.join(2));
        grid.setCrowd(4);
        answers.due("8: join(2), with quarters that are split", -2, grid.join(2));
        for (int scale = 3; scale > 0; scale--) {
            answers.due("8: join(0)", 0, grid.join(0));
            answers.due("8: parish(0, 2)", scale, grid.parish(0, 2));
        }
        answers.due("8: join(2), with too many points", -2, grid.join(2));
        grid.remove(4);
        grid.setCrowd(6);
        answers.due("8: join(2)", 0, grid.join(2));
    }

    /** The parish 1 is split into 1, 4, 5 and 6; when it has joined them, its own debt to 0 stands. */
    private static void joinKeepsDebtsToOthers() {
        TitheGrid grid = Villages.theSecondIsSplit();
        answers.due("8: count(6)", 2, grid.count(6));
        grid.remove(4);
        answers.due("8: join(4)", 1, grid.join(4));
        answers.due("8: debt(1, 0)", 1, grid.debt(1, 0));
        answers.due("8: count(6)", 1, grid.count(6));
        answers.due("8: parish(1, 2)", 1, grid.parish(1, 2));
        answers.due("8: point(3, 4)", 1, grid.point(3, 4));
    }

    /** A point that the parish 7 gave to 4 lies in the cell of 2, when 4 is dissolved. */
    private static void joinPassesLordsOnEverywhere() {
        TitheGrid grid = new TitheGrid();
        grid.setCrowd(2);
        grid.setTithe(1);
        int[] columns = {0, 1, 33, 34, 48, 49, 63};
        int[] rows = {0, 1, 1, 2, 0, 1, 0};
        for (int point = 0; point < columns.length; point++) {
            grid.add(columns[point], rows[point], 10);
        }
        int owing = grid.at(63, 0);
        int lord = grid.at(48, 0);
        answers.due("8: pay", 1, grid.pay(owing));
        answers.due("8: point(6, 4)", lord, grid.point(6, 4));
        answers.due("8: move(6, 0, 63)", 0, grid.move(6, 0, 63));
        answers.due("8: join of the finer quarters", lord, grid.join(lord));
        grid.remove(2);
        grid.remove(3);
        int heir = grid.joinable();
        answers.dueTrue("8: the heir is another one", heir != lord);
        answers.due("8: join", heir, grid.join(lord));
        answers.due("8: point(6, 4)", heir, grid.point(6, 4));
        answers.due("8: parish", -1, grid.parish(lord, 0));
    }

    private static void undoRestoresAll() {
        TitheGrid grid = Villages.threeInTheSecond(2, 9, 1, 5);
        grid.pay(1);
        grid.setTithe(7);
        grid.setCrowd(7);
        grid.join(2);
        grid.remove(0);
        answers.due("9: undo()", 4, grid.undo());
        answers.due("9: point(0, 2)", 50, grid.point(0, 2));
        answers.due("9: count(2)", 1, grid.count(2));
        answers.due("9: undo()", 3, grid.undo());
        answers.due("9: count(2)", 4, grid.count(2));
        answers.due("9: parish(1, 0)", 32, grid.parish(1, 0));
        answers.due("9: point(5, 4)", 0, grid.point(5, 4));
        answers.due("9: undo()", 2, grid.undo());
        answers.due("9: count(4)", 6, grid.count(4));
        answers.due("9: undo()", 1, grid.undo());
        answers.due("9: count(5)", 2, grid.count(5));
        answers.due("9: undo()", 0, grid.undo());
        answers.due("9: point(5, 4)", 1, grid.point(5, 4));
        answers.due("9: debt(1, 0)", 2, grid.debt(1, 0));
        answers.due("9: undo()", -2, grid.undo());
        answers.due("9: count(10)", 0, grid.count(10));
        grid.add(0, 0, 1);
        answers.due("9: undo()", 0, grid.undo());
        answers.due("9: count(1)", 7, grid.count(1));
    }

    private static void undoRestoresPlacesAndCells() {
        TitheGrid grid = Villages.threeInTheSecond(2, 9, 1, 5);
        grid.move(4, 41, 50);
        answers.due("9: point(4, 4)", 3, grid.point(4, 4));
        answers.due("9: undo()", 4, grid.undo());
        answers.due("9: point(4, 0)", 40, grid.point(4, 0));
        answers.due("9: point(4, 1)", 0, grid.point(4, 1));
        answers.due("9: point(4, 4)", 1, grid.point(4, 4));
        grid = new TitheGrid();
        for (int point = 0; point < 5; point++) {
            grid.add(63, 63, 1);
        }
        answers.due("9: parish(0, 1)", 60, grid.parish(0, 1));
        answers.due("9: undo()", 4, grid.undo());
        for (int what = 0; what < 3; what++) {
            answers.due("9: parish(0, " + what + ")", 0, grid.parish(0, what));
        }
        answers.due("9: at(0, 0)", 0, grid.at(0, 0));
        answers.due("9: count(3)", 1, grid.count(3));
        answers.due("9: parish(1, 0)", -1, grid.parish(1, 0));
    }

    private static void undoKeepsFiveStates() {
        TitheGrid grid = new TitheGrid();
        for (int crowd = 2; crowd <= 9; crowd++) {
            grid.setCrowd(crowd);
            answers.due("9: count(10)", Math.min(5, crowd - 1), grid.count(10));
        }
        for (int left = 4; left >= 2; left--) {
            answers.due("9: undo()", left, grid.undo());
            answers.due("9: count(4)", 4 + left, grid.count(4));
        }
        grid.setTithe(8);
        answers.due("9: count(10)", 3, grid.count(10));
        for (int left = 2; left >= 0; left--) {
            answers.due("9: undo()", left, grid.undo());
            answers.due("9: count(4)", 4 + left, grid.count(4));
            answers.due("9: count(5)", 3, grid.count(5));
        }
        answers.due("9: undo()", -2, grid.undo());
    }

    private static void errorsAreNotRecorded() {
        TitheGrid grid = new TitheGrid();
        grid.add(-1, 0, 1);
        grid.remove(0);
        grid.move(0, 0, 0);
        grid.setCrowd(1);
        grid.setTithe(0);
        grid.pay(1);
        grid.join(0);
        answers.due("9: count(10)", 0, grid.count(10));
        answers.due("9: undo()", -2, grid.undo());
        grid.setCrowd(4);
        grid.setTithe(3);
        grid.pay(0);
        answers.due("9: actions that changed nothing", 3, grid.count(10));
    }
}
