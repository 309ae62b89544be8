/** The edges of promises 15 to 17 and 19, a test for each sentence that names one; 18 and 20 stand with the tithes. */
public final class EdgesOfRangesTest {
    private static final int INVALID = -1;
    private static final int NONE = -9;
    private static final Answers answers = new Answers();

    public static void main(String[] args) {
        rangeTakesFirstColumns0To63();
        rangeTakesFirstRows0To63();
        rangeTakesLastColumnsFromTheFirst();
        rangeTakesLastRowsFromTheFirst();
        rangeTakes0To3();
        aRangeHasItsFirstAndLast();
        aRangeOfOnePlace();
        parishesWithAPlaceInARange();
        theRichestOfSeveral();
        theRichestAtBothEndsOfWealth();
        theRichestWithoutPoints();
        rangeNamesArgumentsBeforeNone();
        nearestTakesColumns0To63();
        nearestTakesRows0To63();
        nearestFromZeroToTheWholeMap();
        nearestAddsColumnsAndRows();
        nearestOfSeveral();
        nearestWithoutPoints();
        inOrderTakesAsManyAsThereAre();
        inOrderOfTheFinestCells();
        inOrderRefusesNegativeNumbers();
        cellsWithTakes2To9();
        cellsWithTheCrowdItself();
        cellsWithScalesBelow4();
        cellsWithoutABound();
        cellsForThePointsThatThereAre();
        answers.end();
    }

    /** "x: 0 to 63, the first column" */
    private static void rangeTakesFirstColumns0To63() {
        answers.dueFromTo("range(n, 0, 63, 63, 0)", 0, 63, n -> 40, n -> Villages.fortyPoints().range(n, 0, 63, 63, 0));
    }

    /** "y: 0 to 63, the first row" */
    private static void rangeTakesFirstRows0To63() {
        answers.dueFromTo("range(0, n, 63, 63, 0)", 0, 63, n -> 40, n -> Villages.fortyPoints().range(0, n, 63, 63, 0));
    }

    /** "toX: x to 63, the last column" */
    private static void rangeTakesLastColumnsFromTheFirst() {
        for (int x : new int[] {0, 1, 31, 32, 62, 63}) {
            answers.dueFromTo("range(" + x + ", 0, n, 63, 0)", x, 63, n -> n == 63 ? 40 : 0,
                n -> Villages.fortyPoints().range(x, 0, n, 63, 0));
        }
    }

    /** "toY: y to 63, the last row" */
    private static void rangeTakesLastRowsFromTheFirst() {
        for (int y : new int[] {0, 1, 31, 32, 62, 63}) {
            answers.dueFromTo("range(0, " + y + ", 63, n, 0)", y, 63, n -> n == 63 ? 40 : 0,
                n -> Villages.fortyPoints().range(0, y, 63, n, 0));
        }
    }

    /** "what: 0 the number of points in it, ... 3 the richest point in it" */
    private static void rangeTakes0To3() {
        int[] whole = {5, 142, 7, 4};
        answers.dueFromTo("range(0, 0, 63, 63, n)", 0, 3, n -> whole[n], n -> Villages.make().range(0, 0, 63, 63, n));
        int[] all = {40, 4000, 13, 0};
        answers.dueFromTo("forty points, range(0, 0, 63, 63, n)", 0, 3, n -> all[n],
            n -> Villages.fortyPoints().range(0, 0, 63, 63, n));
        int[] none = {0, 0, 1, NONE};
        answers.dueFromTo("new, range(0, 0, 63, 63, n)", 0, 3, n -> none[n], n -> new TitheGrid().range(0, 0, 63, 63, n));
    }

    /** "the first column", "the last column", "the first row", "the last row": each lies in it, the ones next to it not */
    private static void aRangeHasItsFirstAndLast() {
        TitheGrid grid = new TitheGrid();
        grid.add(40, 20, 7);
        int[][] rows = {
            {40, 0, 63, 63, 1}, {41, 0, 63, 63, 0}, {0, 0, 40, 63, 1}, {0, 0, 39, 63, 0},
            {0, 20, 63, 63, 1}, {0, 21, 63, 63, 0}, {0, 0, 63, 20, 1}, {0, 0, 63, 19, 0},
            {40, 20, 40, 20, 1}, {39, 19, 41, 21, 1}, {39, 19, 39, 21, 0}, {41, 19, 41, 21, 0},
            {39, 19, 41, 19, 0}, {39, 21, 41, 21, 0}
        };
        for (int[] row : rows) {
            String call = "range(" + row[0] + ", " + row[1] + ", " + row[2] + ", " + row[3] + ", ";
            answers.due(call + "0)", row[4], grid.range(row[0], row[1], row[2], row[3], 0));
            answers.due(call + "1)", row[4] * 7, grid.range(row[0], row[1], row[2], row[3], 1));
            answers.due(call + "3)", row[4] == 1 ? 0 : NONE, grid.range(row[0], row[1], row[2], row[3], 3));
        }
    }

    /** "toX: x to 63", "toY: y to 63": one column and one row, at the corners of the map too */
    private static void aRangeOfOnePlace() {
        int[][] corners = {{0, 0}, {63, 0}, {0, 63}, {63, 63}};
        for (int corner = 0; corner < 4; corner++) {
            int x = corners[corner][0];
            int y = corners[corner][1];
            TitheGrid grid = Villages.fourQuarters();
            answers.due("range of a corner without points", 0, grid.range(x, y, x, y, 0));
            answers.due("range of a corner, parishes", 1, grid.range(x, y, x, y, 2));
            grid.add(x, y, 3);
            answers.due("range of a corner with a point", 1, grid.range(x, y, x, y, 0));
            answers.due("the point", 4, grid.range(x, y, x, y, 3));
        }
    }

    /** "2 the number of parishes whose cells have a place in it": with one place, and next to it */
    private static void parishesWithAPlaceInARange() {
        int[][] rows = {
            {31, 31, 32, 32, 4}, {31, 31, 31, 31, 1}, {31, 31, 32, 31, 2}, {31, 31, 31, 32, 2}, {32, 31, 32, 32, 2},
            {31, 32, 32, 32, 2}, {0, 0, 31, 31, 1}, {32, 0, 63, 31, 1}, {0, 32, 31, 63, 1}, {32, 32, 63, 63, 1},
            {0, 0, 32, 31, 2}, {0, 0, 31, 32, 2}, {31, 32, 63, 63, 2}, {32, 31, 63, 63, 2}, {0, 0, 63, 63, 4}
        };
        TitheGrid grid = Villages.fourQuarters();
        for (int[] row : rows) {
            answers.due("range(" + row[0] + ", " + row[1] + ", " + row[2] + ", " + row[3] + ", 2)", row[4],
                grid.range(row[0], row[1], row[2], row[3], 2));
        }
        TitheGrid finest = Villages.fortyPoints();
        answers.due("around the finest cell", 4, finest.range(59, 59, 60, 60, 2));
        answers.due("the finest cell", 1, finest.range(60, 60, 63, 63, 2));
        answers.due("all along a row", 5, finest.range(0, 63, 63, 63, 2));
        answers.due("forty parishes", 40, Villages.fortyParishes().range(0, 0, 63, 63, 2));
        answers.due("joined again", 1, Villages.joinedAgain().range(0, 0, 63, 63, 2));
        answers.due("new, a place", 1, new TitheGrid().range(17, 18, 17, 18, 2));
    }

    /** "of several the one with the smallest number" */
    private static void theRichestOfSeveral() {
        TitheGrid grid = new TitheGrid();
        grid.add(10, 10, 50);
        grid.add(11, 11, 51);
        grid.add(12, 12, 51);
        grid.add(13, 13, 50);
        answers.due("two of 51", 1, grid.range(0, 0, 63, 63, 3));
        answers.due("the greater one alone", 2, grid.range(12, 12, 63, 63, 3));
        answers.due("two of 50", 0, grid.range(0, 0, 10, 63, 3));
        grid.remove(1);
        answers.due("the first one removed", 2, grid.range(0, 0, 63, 63, 3));
        grid.remove(2);
        answers.due("two of 50", 0, grid.range(0, 0, 63, 63, 3));
        answers.due("forty of 100", 0, Villages.fortyPoints().range(0, 0, 63, 63, 3));
        answers.due("the last of forty", 39, theLastPoint().range(0, 0, 63, 63, 3));
    }

    private static void theRichestAtBothEndsOfWealth() {
        TitheGrid grid = new TitheGrid();
        grid.add(5, 5, 1);
        answers.due("one of 1", 0, grid.range(0, 0, 63, 63, 3));
        grid.add(5, 5, 2);
        answers.due("one of 2", 1, grid.range(0, 0, 63, 63, 3));
        grid.add(5, 5, 99);
        grid.add(5, 5, 100);
        answers.due("one of 100", 3, grid.range(0, 0, 63, 63, 3));
    }

    /** "(NONE without points)" */
    private static void theRichestWithoutPoints() {
        answers.due("new", NONE, new TitheGrid().range(0, 0, 63, 63, 3));
        TitheGrid grid = Villages.make();
        answers.due("none in the range", NONE, grid.range(0, 2, 31, 63, 3));
        for (int point = 0; point < 5; point++) {
            grid.remove(point);
        }
        answers.due("all removed", NONE, grid.range(0, 0, 63, 63, 3));
        answers.due("all removed, wealth", 0, grid.range(0, 0, 63, 63, 1));
        answers.due("all removed, number", 0, grid.range(0, 0, 63, 63, 0));
    }

    /** "NONE is no error, and it is returned only if no error condition applies" */
    private static void rangeNamesArgumentsBeforeNone() {
        answers.dueFromTo("new, range(n, 0, 63, 63, 3)", 0, 63, n -> NONE, n -> new TitheGrid().range(n, 0, 63, 63, 3));
        answers.dueFromTo("new, range(0, n, 63, 63, 3)", 0, 63, n -> NONE, n -> new TitheGrid().range(0, n, 63, 63, 3));
        answers.dueFromTo("new, range(9, 0, n, 63, 3)", 9, 63, n -> NONE, n -> new TitheGrid().range(9, 0, n, 63, 3));
        answers.dueFromTo("new, range(0, 9, 63, n, 3)", 9, 63, n -> NONE, n -> new TitheGrid().range(0, 9, 63, n, 3));
    }

    /** "x: 0 to 63" */
    private static void nearestTakesColumns0To63() {
        answers.dueFromTo("nearest(n, 5)", 0, 63, n -> 0, n -> Villages.fortyPoints().nearest(n, 5));
        answers.dueFromTo("without points, nearest(n, 5)", 0, 63, n -> NONE, n -> new TitheGrid().nearest(n, 5));
    }

    /** "y: 0 to 63" */
    private static void nearestTakesRows0To63() {
        answers.dueFromTo("nearest(5, n)", 0, 63, n -> 0, n -> Villages.fortyPoints().nearest(5, n));
        answers.dueFromTo("without points, nearest(5, n)", 0, 63, n -> NONE, n -> new TitheGrid().nearest(5, n));
    }

    /** The nearest point can lie at the place itself, and as far off as two corners do. */
    private static void nearestFromZeroToTheWholeMap() {
        int[][] corners = {{0, 0}, {63, 0}, {0, 63}, {63, 63}};
        for (int[] corner : corners) {
            TitheGrid grid = new TitheGrid();
            grid.add(corner[0], corner[1], 1);
            answers.due("from the opposite corner", 0, grid.nearest(63 - corner[0], 63 - corner[1]));
            answers.due("from the same corner", 0, grid.nearest(corner[0], corner[1]));
            grid.add(63 - corner[0], corner[1], 1);
            answers.due("from the opposite corner, one nearer", 1, grid.nearest(63 - corner[0], 63 - corner[1]));
            answers.due("from the same corner", 0, grid.nearest(corner[0], corner[1]));
        }
    }

    /** "by the difference of columns and that of rows together" */
    private static void nearestAddsColumnsAndRows() {
        TitheGrid grid = new TitheGrid();
        grid.add(13, 13, 1);
        grid.add(15, 10, 1);
        answers.due("3 and 3 against 5 and 0", 1, grid.nearest(10, 10));
        grid.add(10, 6, 1);
        answers.due("4 rows against 5 columns", 2, grid.nearest(10, 10));
        grid.add(7, 10, 1);
        answers.due("3 columns against 4 rows", 3, grid.nearest(10, 10));
        grid.remove(3);
        answers.due("the nearest removed", 2, grid.nearest(10, 10));
    }

    /** "of several the one with the smallest number" */
    private static void nearestOfSeveral() {
        TitheGrid grid = new TitheGrid();
        grid.add(20, 26, 1);
        grid.add(25, 20, 1);
        grid.add(20, 15, 1);
        grid.add(17, 18, 1);
        answers.due("1, 2 and 3 five off", 1, grid.nearest(20, 20));
        answers.due("0 five off, the others six", 0, grid.nearest(20, 21));
        grid.remove(1);
        answers.due("2 and 3 five off", 2, grid.nearest(20, 20));
        grid.remove(2);
        answers.due("3 five off, 0 six off", 3, grid.nearest(20, 20));
        answers.due("the smallest of forty", 0, Villages.fortyPoints().nearest(63, 63));
        answers.due("the last of forty", 39, theLastPoint().nearest(0, 0));
    }

    private static TitheGrid theLastPoint() {
        TitheGrid grid = Villages.fortyPoints();
        for (int point = 0; point < 39; point++) {
            grid.remove(point);
        }
        return grid;
    }

    /** "NONE without points" */
    private static void nearestWithoutPoints() {
        TitheGrid grid = new TitheGrid();
        answers.due("new", NONE, grid.nearest(0, 0));
        grid.add(0, 0, 1);
        answers.due("a point", 0, grid.nearest(0, 0));
        grid.undo();
        answers.due("the point undone", NONE, grid.nearest(0, 0));
        grid.add(9, 9, 1);
        grid.remove(0);
        answers.due("the point removed", NONE, grid.nearest(9, 9));
        answers.due("the point removed, a wrong place", INVALID, grid.nearest(9, 64));
    }

    /** "NONE if there are not so many" */
    private static void inOrderTakesAsManyAsThereAre() {
        TitheGrid[] grids = {new TitheGrid(), Villages.joinedAgain(), Villages.fourQuarters(), Villages.make(),
            Villages.fortyPoints(), Villages.thirtySevenParishes(), Villages.fortyParishes()};
        int[] numbers = {1, 1, 4, 7, 13, 37, 40};
        for (int index = 0; index < grids.length; index++) {
            TitheGrid grid = grids[index];
            boolean[] seen = new boolean[40];
            for (int place = 0; place < numbers[index]; place++) {
                int parish = grid.inOrder(place);
                answers.dueTrue("inOrder(" + place + ") of " + numbers[index] + " is another parish",
                    parish >= 0 && parish < 40 && !seen[parish]);
                seen[Math.max(0, Math.min(39, parish))] = true;
            }
            for (int place : new int[] {numbers[index], numbers[index] + 1, 63, 64, 4096, Integer.MAX_VALUE}) {
                answers.due("inOrder(" + place + ") of " + numbers[index], NONE, grid.inOrder(place));
            }
        }
    }

    /** "and within each that is split its quarters again": down to the scale 4, in each of the four corners */
    private static void inOrderOfTheFinestCells() {
        int[][] orders = {
            {0, 10, 11, 12, 7, 8, 9, 4, 5, 6, 1, 2, 3}, {1, 4, 7, 10, 0, 11, 12, 8, 9, 5, 6, 2, 3},
            {1, 2, 4, 5, 7, 8, 10, 11, 0, 12, 9, 6, 3}, {1, 2, 3, 4, 5, 6, 7, 8, 9, 10, 11, 12, 0}
        };
        for (int quarter = 0; quarter < 4; quarter++) {
            TitheGrid grid = new TitheGrid();
            for (int point = 0; point < 5; point++) {
                grid.add(quarter % 2 * 63, quarter / 2 * 63, 1);
            }
            for (int index = 0; index < 13; index++) {
                answers.due("corner " + quarter + ", inOrder(" + index + ")", orders[quarter][index], grid.inOrder(index));
            }
            answers.due("corner " + quarter + ", inOrder(13)", NONE, grid.inOrder(13));
        }
    }

    /** "INVALID_ARGUMENT if index is negative" */
    private static void inOrderRefusesNegativeNumbers() {
        answers.dueRefused("new, inOrder(n)", n -> new TitheGrid().inOrder(n), -1, -2, -9, -64, Integer.MIN_VALUE);
        answers.dueRefused("of forty, inOrder(n)", n -> Villages.fortyParishes().inOrder(n), -1, -40, Integer.MIN_VALUE);
        answers.due("new, inOrder(0)", 0, new TitheGrid().inOrder(0));
    }

    /** "crowd: 2 to 9" */
    private static void cellsWithTakes2To9() {
        answers.dueFromTo("new, cellsWith(n)", 2, 9, n -> 1, n -> new TitheGrid().cellsWith(n));
        answers.dueFromTo("forty points, cellsWith(n)", 2, 9, n -> 13, n -> Villages.fortyPoints().cellsWith(n));
    }

    /** "with more points than a crowd": not with as many */
    private static void cellsWithTheCrowdItself() {
        for (int number = 2; number <= 10; number++) {
            TitheGrid grid = new TitheGrid();
            for (int point = 0; point < number; point++) {
                grid.add(point % 2 * 32 + point / 4, point / 2 % 2 * 32, 1);
            }
            for (int crowd = 2; crowd <= 9; crowd++) {
                int inEach = (number + 3) / 4;
                int want = number <= crowd ? 1 : 4;
                if (inEach <= crowd) {
                    answers.due(number + " points, cellsWith(" + crowd + ")", want, grid.cellsWith(crowd));
                }
            }
        }
    }

    /** "each cell of a scale less than 4" */
    private static void cellsWithScalesBelow4() {
        int[] distances = {63, 32, 31, 16, 15, 8, 7, 4, 3, 1, 0};
        int[] cells = {4, 4, 7, 7, 10, 10, 13, 13, 13, 13, 13};
        for (int index = 0; index < distances.length; index++) {
            TitheGrid grid = new TitheGrid();
            grid.add(0, 0, 1);
            grid.add(distances[index], 0, 1);
            grid.add(0, distances[index], 1);
            answers.due("three points, " + distances[index] + " apart, cellsWith(2)", cells[index], grid.cellsWith(2));
            answers.due("three points, " + distances[index] + " apart, cellsWith(3)", 1, grid.cellsWith(3));
        }
    }

    /** "(without a bound for the number of parishes)": thirteen heaps of three, each in a cell of the scale 2 of its own */
    private static void cellsWithoutABound() {
        TitheGrid grid = new TitheGrid();
        for (int point = 0; point < 39; point++) {
            grid.add(point / 3 % 4 * 16, point / 12 * 16, 1);
        }
        int[] cells = {94, 16, 16, 16, 13, 13, 13, 10};
        for (int crowd = 2; crowd <= 9; crowd++) {
            answers.due("heaps, cellsWith(" + crowd + ")", cells[crowd - 2], grid.cellsWith(crowd));
        }
        grid.setCrowd(2);
        answers.due("count(2)", 40, grid.count(2));
        answers.due("cellsWith(2)", 94, grid.cellsWith(2));
    }

    /** "divided anew for the points that there are": whatever the division was, and without those that are removed */
    private static void cellsForThePointsThatThereAre() {
        TitheGrid grid = Villages.fourQuarters();
        answers.due("four points, cellsWith(3)", 4, grid.cellsWith(3));
        answers.due("four points, cellsWith(4)", 1, grid.cellsWith(4));
        grid.remove(0);
        answers.due("three points, cellsWith(2)", 4, grid.cellsWith(2));
        answers.due("three points, cellsWith(3)", 1, grid.cellsWith(3));
        answers.due("count(2), which is not joined by itself", 4, grid.count(2));
        grid.remove(1);
        answers.due("two points, cellsWith(2)", 1, grid.cellsWith(2));
    }
}
