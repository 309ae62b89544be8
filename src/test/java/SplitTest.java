/** The terms of splits, lords and debts, which hold behind every action. */
public final class SplitTest {
    private static final Answers answers = new Answers();

    public static void main(String[] args) {
        crowdedMeansMoreThanTheCrowd();
        theFirstOfTheFullestQuartersIsKept();
        debtsAreRoundedUp();
        aQuarterCountsWhoeverIsLord();
        lordsElsewhereStay();
        theSmallestCrowdedParishIsFirst();
        noSplitBelowTheFinestScale();
        noSplitWithThirtyEightFounded();
        joinsDoNotBringSplitsBack();
        answers.end();
    }

    private static void dueCell(TitheGrid grid, int parish, int left, int top, int scale) {
        answers.due("parish(" + parish + ", 0)", left, grid.parish(parish, 0));
        answers.due("parish(" + parish + ", 1)", top, grid.parish(parish, 1));
        answers.due("parish(" + parish + ", 2)", scale, grid.parish(parish, 2));
    }

    private static void crowdedMeansMoreThanTheCrowd() {
        TitheGrid grid = new TitheGrid();
        for (int point = 0; point < 4; point++) {
            grid.add(point * 20, 0, 1);
        }
        answers.due("count(3) with four points", 1, grid.count(3));
        grid.add(63, 63, 1);
        answers.due("count(3) with five points", 4, grid.count(3));
    }

    private static void theFirstOfTheFullestQuartersIsKept() {
        TitheGrid grid = new TitheGrid();
        grid.setCrowd(3);
        grid.add(40, 0, 1);
        grid.add(41, 0, 1);
        grid.add(0, 40, 1);
        grid.add(1, 40, 1);
        dueCell(grid, 0, 32, 0, 1);
        dueCell(grid, 1, 0, 0, 1);
        dueCell(grid, 2, 0, 32, 1);
        dueCell(grid, 3, 32, 32, 1);
        answers.due("debt(1, 0)", 0, grid.debt(1, 0));
        answers.due("debt(2, 0)", 1, grid.debt(2, 0));
        answers.due("debt(3, 0)", 0, grid.debt(3, 0));
        answers.due("point(0, 4)", 0, grid.point(0, 4));
        answers.due("point(2, 4)", 2, grid.point(2, 4));
    }

    /** Four points in the quarter 0, three in 1, two in 2, one in 3. */
    private static TitheGrid tenPoints(int tithe) {
        TitheGrid grid = new TitheGrid();
        grid.setCrowd(9);
        grid.setTithe(tithe);
        int[] columns = {0, 0, 0, 0, 32, 32, 32, 0, 0, 32};
        int[] rows = {0, 1, 2, 3, 0, 1, 2, 32, 33, 32};
        for (int point = 0; point < 10; point++) {
            grid.add(columns[point], rows[point], 1);
        }
        return grid;
    }

    private static void debtsAreRoundedUp() {
        int[][] debts = {{1, 3, 2, 1}, {2, 2, 1, 1}, {3, 1, 1, 1}, {9, 1, 1, 1}};
        for (int[] row : debts) {
            TitheGrid grid = tenPoints(row[0]);
            for (int parish = 1; parish < 4; parish++) {
                answers.due("tithe " + row[0] + ", debt(" + parish + ", 0)", row[parish], grid.debt(parish, 0));
                answers.due("tithe " + row[0] + ", debt(0, " + parish + ")", 0, grid.debt(0, parish));
            }
            grid.setTithe(1);
            answers.due("debt(1, 0) behind setTithe", row[1], grid.debt(1, 0));
        }
    }

    /** Parishes 0 to 3 in the quarters 0 to 3, a point in each, and all of them pay to 0. */
    private static TitheGrid allPayToTheFirst() {
        TitheGrid grid = Villages.fourQuarters();
        grid.pay(1);
        grid.pay(2);
        grid.pay(3);
        return grid;
    }

    private static void aQuarterCountsWhoeverIsLord() {
        TitheGrid grid = allPayToTheFirst();
        grid.move(2, 50, 2);
        grid.move(3, 51, 3);
        answers.due("add(41, 20, 5)", 4, grid.add(41, 20, 5));
        answers.due("count(3)", 7, grid.count(3));
        dueCell(grid, 1, 48, 0, 2);
        dueCell(grid, 4, 32, 0, 2);
        dueCell(grid, 5, 32, 16, 2);
        dueCell(grid, 6, 48, 16, 2);
        answers.due("debt(4, 1), of a point with another lord", 1, grid.debt(4, 1));
        answers.due("debt(5, 1)", 1, grid.debt(5, 1));
        answers.due("debt(6, 1)", 0, grid.debt(6, 1));
        answers.due("point(1, 4)", 0, grid.point(1, 4));
        answers.due("point(2, 4)", 0, grid.point(2, 4));
        answers.due("point(4, 4)", 5, grid.point(4, 4));
        answers.due("parish(1, 4)", 0, grid.parish(1, 4));
    }

    private static void lordsElsewhereStay() {
        TitheGrid grid = allPayToTheFirst();
        grid.add(20, 1, 5);
        grid.add(1, 20, 5);
        grid.add(20, 20, 5);
        int[] lords = {0, 0, 0, 0, 4, 5, 6};
        for (int point = 0; point < lords.length; point++) {
            answers.due("point(" + point + ", 4)", lords[point], grid.point(point, 4));
        }
        answers.due("parish(0, 3)", 1, grid.parish(0, 3));
        answers.due("parish(0, 4)", 4, grid.parish(0, 4));
    }

    private static void theSmallestCrowdedParishIsFirst() {
        TitheGrid grid = new TitheGrid();
        grid.setCrowd(9);
        int[] columns = {32, 32, 48, 48, 0, 16, 0, 63, 62, 40};
        int[] rows = {0, 1, 0, 16, 32, 32, 48, 63, 62, 40};
        for (int point = 0; point < 10; point++) {
            grid.add(columns[point], rows[point], 1);
        }
        answers.due("count(3)", 4, grid.count(3));
        answers.due("setCrowd(2)", 9, grid.setCrowd(2));
        answers.due("count(3)", 13, grid.count(3));
        int[][] cells = {
            {32, 0, 2}, {0, 0, 1}, {0, 32, 2}, {48, 48, 2}, {48, 0, 2}, {32, 16, 2}, {48, 16, 2},
            {16, 32, 2}, {0, 48, 2}, {16, 48, 2}, {32, 32, 2}, {48, 32, 2}, {32, 48, 2}
        };
        for (int parish = 0; parish < cells.length; parish++) {
            dueCell(grid, parish, cells[parish][0], cells[parish][1], cells[parish][2]);
        }
    }

    private static void noSplitBelowTheFinestScale() {
        TitheGrid grid = new TitheGrid();
        for (int point = 0; point < 30; point++) {
            grid.add(36, 36, 1);
        }
        answers.due("count(3)", 13, grid.count(3));
        answers.due("parish(0, 3)", 30, grid.parish(0, 3));
        dueCell(grid, 0, 36, 36, 4);
    }

    /** Heaps of three points; the last split of all is the first one that the last heap needs. */
    private static TitheGrid fortyParishes() {
        TitheGrid grid = new TitheGrid();
        grid.setCrowd(2);
        int[] columns = {0, 8, 16, 16, 63, 63};
        int[] rows = {0, 8, 16, 0, 63, 0};
        int[] founded = {13, 16, 22, 28, 37, 40};
        for (int heap = 0; heap < 6; heap++) {
            for (int point = 0; point < 3; point++) {
                grid.add(columns[heap], rows[heap], 1);
            }
            answers.due("count(3) with heaps up to " + heap, founded[heap], grid.count(3));
        }
        return grid;
    }

    private static void noSplitWithThirtyEightFounded() {
        TitheGrid grid = fortyParishes();
        answers.due("count(2)", 40, grid.count(2));
        dueCell(grid, grid.at(63, 0), 48, 0, 2);
        answers.due("points at (63, 0)", 3, grid.parish(grid.at(63, 0), 3));
        answers.due("cellsWith(2), without the bound", 46, grid.cellsWith(2));
        grid.undo();
        answers.due("count(3) behind undo", 37, grid.count(3));
        grid.add(32, 31, 1);
        dueCell(grid, grid.at(63, 0), 48, 0, 2);
        answers.due("count(3) behind another add", 40, grid.count(3));
    }

    private static void joinsDoNotBringSplitsBack() {
        TitheGrid grid = fortyParishes();
        int emptied = grid.at(63, 63);
        grid.remove(12);
        answers.due("join", emptied, grid.join(emptied));
        answers.due("count(2)", 37, grid.count(2));
        answers.due("count(3)", 40, grid.count(3));
        grid.add(63, 63, 1);
        answers.due("count(2) with a crowded parish", 37, grid.count(2));
        answers.due("points at (63, 63)", 3, grid.parish(emptied, 3));
    }
}
