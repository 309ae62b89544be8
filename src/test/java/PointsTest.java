/** Promises 1 to 4: a new object, add, remove, move. */
public final class PointsTest {
    private static final Answers answers = new Answers();

    public static void main(String[] args) {
        newObject();
        newObjectsAreApart();
        addNumbersPoints();
        addRefusesWrongArguments();
        addRefusesTheFortyFirst();
        addGivesTheParishForLord();
        removeTakesPoints();
        removeRefusesWrongPoints();
        moveChangesPlaceAndLord();
        moveLeavesAnotherLord();
        moveAnswersForBeforeTheSplit();
        moveRefusesWrongArguments();
        answers.end();
    }

    private static void newObject() {
        TitheGrid grid = new TitheGrid();
        int[] counts = {0, 0, 1, 1, 4, 3, 0, 0, 0, 0, 0};
        for (int what = 0; what < counts.length; what++) {
            answers.due("1: new, count(" + what + ")", counts[what], grid.count(what));
        }
        for (int what = 0; what < 8; what++) {
            answers.due("1: new, parish(0, " + what + ")", 0, grid.parish(0, what));
        }
        answers.due("1: new, parish(1, 0)", -1, grid.parish(1, 0));
        answers.due("1: new, point(0, 0)", -1, grid.point(0, 0));
        answers.due("1: new, at(0, 0)", 0, grid.at(0, 0));
        answers.due("1: new, at(63, 63)", 0, grid.at(63, 63));
        answers.due("1: new, debt(0, 0)", 0, grid.debt(0, 0));
        answers.due("1: new, inOrder(0)", 0, grid.inOrder(0));
        answers.due("1: new, inOrder(1)", -9, grid.inOrder(1));
        answers.due("1: new, undo()", -2, grid.undo());
    }

    private static void newObjectsAreApart() {
        TitheGrid one = new TitheGrid();
        TitheGrid other = new TitheGrid();
        one.add(1, 1, 1);
        one.setCrowd(9);
        answers.due("1: count(0) of the other", 0, other.count(0));
        answers.due("1: count(4) of the other", 4, other.count(4));
        answers.due("1: count(10) of the other", 0, other.count(10));
    }

    private static void addNumbersPoints() {
        TitheGrid grid = new TitheGrid();
        answers.due("2: add(0, 63, 1)", 0, grid.add(0, 63, 1));
        answers.due("2: add(63, 0, 100)", 1, grid.add(63, 0, 100));
        answers.due("2: add(63, 0, 50)", 2, grid.add(63, 0, 50));
        answers.due("2: point(0, 0)", 0, grid.point(0, 0));
        answers.due("2: point(0, 1)", 63, grid.point(0, 1));
        answers.due("2: point(0, 2)", 1, grid.point(0, 2));
        answers.due("2: point(1, 0)", 63, grid.point(1, 0));
        answers.due("2: point(1, 1)", 0, grid.point(1, 1));
        answers.due("2: point(1, 2)", 100, grid.point(1, 2));
        answers.due("2: count(10)", 3, grid.count(10));
        grid.remove(2);
        answers.due("2: a removed number is not used again", 3, grid.add(5, 5, 5));
        grid.undo();
        answers.due("2: an undone number is", 3, grid.add(6, 6, 6));
    }

    private static void addRefusesWrongArguments() {
        TitheGrid grid = new TitheGrid();
        int[][] wrong = {
            {-1, 0, 1}, {64, 0, 1}, {0, -1, 1}, {0, 64, 1}, {0, 0, 0}, {0, 0, 101}, {0, 0, -1},
            {Integer.MIN_VALUE, 0, 1}, {0, Integer.MAX_VALUE, 1}, {0, 0, Integer.MIN_VALUE}, {0, 0, Integer.MAX_VALUE}
        };
        for (int[] call : wrong) {
            answers.due("2: add(" + call[0] + ", " + call[1] + ", " + call[2] + ")", -1,
                grid.add(call[0], call[1], call[2]));
        }
        answers.due("2: count(1) behind wrong adds", 0, grid.count(1));
        answers.due("2: count(10) behind wrong adds", 0, grid.count(10));
    }

    private static void addRefusesTheFortyFirst() {
        TitheGrid grid = new TitheGrid();
        for (int point = 0; point < 40; point++) {
            answers.due("2: add of point " + point, point, grid.add(point, point, 1));
            if (point % 4 == 3) {
                grid.remove(point);
            }
        }
        answers.due("2: the points that are there", 30, grid.count(0));
        answers.due("2: the points that were added", 40, grid.count(1));
        answers.due("2: history of five", 5, grid.count(10));
        answers.due("2: add(0, 0, 1) when 40 were added", -3, grid.add(0, 0, 1));
        answers.due("2: add(64, 0, 1) when 40 were added", -1, grid.add(64, 0, 1));
        answers.due("2: add(0, 0, 0) when 40 were added", -1, grid.add(0, 0, 0));
        answers.due("2: count(1)", 40, grid.count(1));
        answers.due("2: undo of the last remove", 4, grid.undo());
        answers.due("2: add(0, 0, 1) when 40 were added", -3, grid.add(0, 0, 1));
        answers.due("2: undo of the last add", 3, grid.undo());
        answers.due("2: add(0, 0, 1) when 39 were added", 39, grid.add(0, 0, 1));
    }

    /** Five points in one quarter: the parish 0 follows them to its cell of 4 columns at last. */
    private static void addGivesTheParishForLord() {
        TitheGrid grid = new TitheGrid();
        for (int point = 0; point < 5; point++) {
            grid.add(60, 60, 1 + point);
        }
        answers.due("2: at(60, 60)", 0, grid.at(60, 60));
        answers.due("2: at(0, 0)", 1, grid.at(0, 0));
        grid.add(0, 0, 7);
        answers.due("2: point(5, 3)", 1, grid.point(5, 3));
        answers.due("2: point(5, 4)", 1, grid.point(5, 4));
        answers.due("2: point(4, 4)", 0, grid.point(4, 4));
    }

    private static void removeTakesPoints() {
        TitheGrid grid = new TitheGrid();
        grid.add(1, 1, 10);
        grid.add(2, 2, 20);
        grid.add(3, 3, 30);
        answers.due("3: remove(1)", 2, grid.remove(1));
        answers.due("3: point(1, 0)", -1, grid.point(1, 0));
        answers.due("3: point(2, 2)", 30, grid.point(2, 2));
        answers.due("3: count(0)", 2, grid.count(0));
        answers.due("3: count(1)", 3, grid.count(1));
        answers.due("3: count(9)", 40, grid.count(9));
        answers.due("3: parish(0, 3)", 2, grid.parish(0, 3));
        answers.due("3: parish(0, 4)", 2, grid.parish(0, 4));
        answers.due("3: parish(0, 5)", 40, grid.parish(0, 5));
        answers.due("3: nearest(2, 2)", 0, grid.nearest(2, 2));
        answers.due("3: count(10)", 4, grid.count(10));
        answers.due("3: remove(0)", 1, grid.remove(0));
        answers.due("3: remove(2)", 0, grid.remove(2));
    }

    private static void removeRefusesWrongPoints() {
        TitheGrid grid = new TitheGrid();
        answers.due("3: remove(0) without points", -1, grid.remove(0));
        grid.add(1, 1, 10);
        grid.remove(0);
        int[] wrong = {0, 1, -1, 39, 40, Integer.MIN_VALUE, Integer.MAX_VALUE};
        for (int point : wrong) {
            answers.due("3: remove(" + point + ")", -1, grid.remove(point));
        }
        answers.due("3: count(10) behind wrong removes", 2, grid.count(10));
    }

    private static void moveChangesPlaceAndLord() {
        TitheGrid grid = Villages.fourQuarters();
        answers.due("4: move(0, 31, 31)", 0, grid.move(0, 31, 31));
        answers.due("4: point(0, 0)", 31, grid.point(0, 0));
        answers.due("4: move(0, 32, 31)", 1, grid.move(0, 32, 31));
        answers.due("4: point(0, 0)", 32, grid.point(0, 0));
        answers.due("4: point(0, 1)", 31, grid.point(0, 1));
        answers.due("4: point(0, 3)", 1, grid.point(0, 3));
        answers.due("4: point(0, 4)", 1, grid.point(0, 4));
        answers.due("4: move(0, 63, 63)", 1, grid.move(0, 63, 63));
        answers.due("4: point(0, 4)", 3, grid.point(0, 4));
        answers.due("4: move(0, 63, 63) again", 0, grid.move(0, 63, 63));
        answers.due("4: count(10)", 5, grid.count(10));
        answers.due("4: undo()", 4, grid.undo());
        answers.due("4: undo()", 3, grid.undo());
        answers.due("4: point(0, 4)", 1, grid.point(0, 4));
    }

    private static void moveLeavesAnotherLord() {
        TitheGrid grid = Villages.fourQuarters();
        answers.due("4: pay(1)", 1, grid.pay(1));
        answers.due("4: point(1, 4)", 0, grid.point(1, 4));
        answers.due("4: move(1, 2, 40)", 0, grid.move(1, 2, 40));
        answers.due("4: point(1, 3)", 2, grid.point(1, 3));
        answers.due("4: point(1, 4)", 0, grid.point(1, 4));
        answers.due("4: move(1, 2, 3) to its lord", 0, grid.move(1, 2, 3));
        answers.due("4: point(1, 4)", 0, grid.point(1, 4));
        answers.due("4: move(1, 40, 2) from its lord", 1, grid.move(1, 40, 2));
        answers.due("4: point(1, 4)", 1, grid.point(1, 4));
    }

    private static void moveAnswersForBeforeTheSplit() {
        TitheGrid grid = Villages.fourQuarters();
        grid.pay(1);
        grid.add(20, 1, 5);
        grid.add(1, 20, 5);
        answers.due("4: count(3) before", 4, grid.count(3));
        answers.due("4: move(1, 20, 20)", 0, grid.move(1, 20, 20));
        answers.due("4: count(3) behind", 7, grid.count(3));
        answers.due("4: point(1, 4)", 6, grid.point(1, 4));
        answers.due("4: debt(6, 0)", 1, grid.debt(6, 0));
    }

    private static void moveRefusesWrongArguments() {
        TitheGrid grid = new TitheGrid();
        answers.due("4: move(0, 1, 1) without points", -1, grid.move(0, 1, 1));
        grid.add(5, 6, 7);
        grid.add(5, 6, 7);
        grid.remove(1);
        int[][] wrong = {
            {0, -1, 0}, {0, 64, 0}, {0, 0, -1}, {0, 0, 64}, {-1, 0, 0}, {1, 0, 0}, {2, 0, 0}, {40, 0, 0},
            {Integer.MAX_VALUE, 0, 0}, {Integer.MIN_VALUE, 0, 0}, {0, Integer.MIN_VALUE, 0}, {0, 0, Integer.MAX_VALUE}
        };
        for (int[] call : wrong) {
            answers.due("4: move(" + call[0] + ", " + call[1] + ", " + call[2] + ")", -1,
                grid.move(call[0], call[1], call[2]));
        }
        answers.due("4: point(0, 0)", 5, grid.point(0, 0));
        answers.due("4: point(0, 1)", 6, grid.point(0, 1));
        answers.due("4: count(10) behind wrong moves", 3, grid.count(10));
    }
}
