/** The edges of cells, of crowds and of splits, a test for each sentence of the terms that names one. */
public final class EdgesOfCellsTest {
    private static final int[] QUARTER_X = {0, 32, 0, 32};
    private static final int[] QUARTER_Y = {0, 0, 32, 32};
    private static final Answers answers = new Answers();

    public static void main(String[] args) {
        cellsHaveSidesOf64To4();
        quartersMeetInTheMiddle();
        eachPlaceHasOneParish();
        scalesBelow4AreSplit();
        theScale4IsNotSplit();
        theFirstCrowdIs4();
        theCrowdItselfIsNotCrowded();
        aCrowdThatIsSetLower();
        aMoveThatMakesACrowd();
        removedPointsMakeNoCrowd();
        eachQuarterCanBeKept();
        ofTwoFullestTheFirstIsKept();
        ofThreeAndFourFullestTheFirstIsKept();
        onePointMoreIsKept();
        pointsNextToTheCellAreNotCounted();
        debtsForEachTithe();
        theFirstTitheIs3();
        parishesBelow38AreSplitStill();
        parishesFrom38OnAreNotSplit();
        parishesAreNumberedUpTo39();
        dissolvedParishesAreIncluded();
        theSmallestNumberIsSplitAtTheBound();
        aFinestParishIsPassedOver();
        answers.end();
    }

    /** Points one behind the other in the quarters 0 to 3, none of which becomes crowded itself. */
    private static void addSpread(TitheGrid grid, int from, int to) {
        for (int point = from; point < to; point++) {
            grid.add(QUARTER_X[point % 4] + point / 4 * 15, QUARTER_Y[point % 4], 1);
        }
    }

    private static void dueCell(String call, TitheGrid grid, int parish, int left, int top, int scale) {
        answers.due(call + ", parish(" + parish + ", 0)", left, grid.parish(parish, 0));
        answers.due(call + ", parish(" + parish + ", 1)", top, grid.parish(parish, 1));
        answers.due(call + ", parish(" + parish + ", 2)", scale, grid.parish(parish, 2));
    }

    /** "A cell of the scale k has a side of 64 divided by 2 to the power of k": on both sides of each border */
    private static void cellsHaveSidesOf64To4() {
        TitheGrid grid = Villages.fortyPoints();
        int[][] places = {
            {0, 0, 1}, {31, 31, 1}, {32, 31, 2}, {63, 0, 2}, {31, 32, 3}, {0, 63, 3},
            {32, 32, 4}, {47, 47, 4}, {48, 47, 5}, {63, 32, 5}, {47, 48, 6}, {32, 63, 6},
            {48, 48, 7}, {55, 55, 7}, {56, 55, 8}, {63, 48, 8}, {55, 56, 9}, {48, 63, 9},
            {56, 56, 10}, {59, 59, 10}, {60, 59, 11}, {63, 56, 11}, {59, 60, 12}, {56, 63, 12},
            {60, 60, 0}, {63, 60, 0}, {60, 63, 0}, {63, 63, 0}
        };
        for (int[] place : places) {
            answers.due("at(" + place[0] + ", " + place[1] + ")", place[2], grid.at(place[0], place[1]));
        }
        answers.due("at(0, 0) of the whole map", 0, new TitheGrid().at(0, 0));
        answers.due("at(63, 63) of the whole map", 0, new TitheGrid().at(63, 63));
    }

    /** "0 (smaller x, smaller y), 1 (greater x, smaller y), 2 (smaller x, greater y) and 3" */
    private static void quartersMeetInTheMiddle() {
        TitheGrid grid = Villages.fourQuarters();
        answers.due("at(31, 31)", 0, grid.at(31, 31));
        answers.due("at(32, 31)", 1, grid.at(32, 31));
        answers.due("at(31, 32)", 2, grid.at(31, 32));
        answers.due("at(32, 32)", 3, grid.at(32, 32));
        for (int quarter = 0; quarter < 4; quarter++) {
            dueCell("four quarters", grid, quarter, QUARTER_X[quarter], QUARTER_Y[quarter], 1);
            answers.due("inOrder(" + quarter + ")", quarter, grid.inOrder(quarter));
        }
    }

    /** "Each cell that is not split has a parish": their cells have all 4096 places together */
    private static void eachPlaceHasOneParish() {
        TitheGrid[] grids = {new TitheGrid(), Villages.make(), Villages.fourQuarters(), Villages.fortyPoints(),
            Villages.thirtySevenParishes(), Villages.fortyParishes(), Villages.joinedAgain()};
        int[] parishes = {1, 7, 4, 13, 37, 40, 1};
        for (int index = 0; index < grids.length; index++) {
            int places = 0;
            for (int parish = 0; parish < 40; parish++) {
                int scale = grids[index].parish(parish, 2);
                places += scale < 0 ? 0 : (64 >> scale) * (64 >> scale);
            }
            answers.due("places in map " + index, 4096, places);
            answers.due("count(2) in map " + index, parishes[index], grids[index].count(2));
        }
    }

    private static TitheGrid threePoints(int distance) {
        TitheGrid grid = new TitheGrid();
        grid.setCrowd(2);
        grid.add(0, 0, 1);
        grid.add(distance, 0, 1);
        grid.add(0, distance, 1);
        return grid;
    }

    /** "it can be split into four quarters ..., if k is less than 4": 0, 1, 2 and 3 */
    private static void scalesBelow4AreSplit() {
        int[] distances = {32, 16, 8, 4};
        for (int scale = 0; scale < 4; scale++) {
            TitheGrid grid = threePoints(distances[scale]);
            answers.due("split of the scale " + scale + ", count(8)", scale + 1, grid.count(8));
            answers.due("split of the scale " + scale + ", count(3)", 4 + 3 * scale, grid.count(3));
            answers.due("split of the scale " + scale + ", parish(0, 3)", 1, grid.parish(0, 3));
        }
    }

    /** "... if k is less than 4": 4 is not */
    private static void theScale4IsNotSplit() {
        for (int distance = 0; distance < 4; distance++) {
            TitheGrid grid = threePoints(distance);
            answers.due("crowded at the scale 4, count(8)", 4, grid.count(8));
            answers.due("crowded at the scale 4, count(3)", 13, grid.count(3));
            answers.due("crowded at the scale 4, parish(0, 3)", 3, grid.parish(0, 3));
        }
    }

    /** "the crowd (2 to 9; at first 4)" */
    private static void theFirstCrowdIs4() {
        TitheGrid grid = new TitheGrid();
        addSpread(grid, 0, 4);
        answers.due("count(3) with four points", 1, grid.count(3));
        addSpread(grid, 4, 5);
        answers.due("count(3) with five points", 4, grid.count(3));
    }

    /** "A parish is crowded if more points lie in its cell than the crowd" */
    private static void theCrowdItselfIsNotCrowded() {
        for (int crowd = 2; crowd <= 9; crowd++) {
            TitheGrid grid = new TitheGrid();
            grid.setCrowd(crowd);
            addSpread(grid, 0, crowd);
            answers.due("crowd " + crowd + ", count(3) with as many", 1, grid.count(3));
            addSpread(grid, crowd, crowd + 1);
            answers.due("crowd " + crowd + ", count(3) with one more", 4, grid.count(3));
        }
    }

    /** "this is done behind each action": setCrowd */
    private static void aCrowdThatIsSetLower() {
        for (int points = 3; points <= 9; points++) {
            TitheGrid grid = new TitheGrid();
            grid.setCrowd(9);
            addSpread(grid, 0, points);
            grid.setCrowd(points);
            answers.due("setCrowd(" + points + ") with as many points, count(3)", 1, grid.count(3));
            grid.setCrowd(points - 1);
            answers.due("setCrowd(" + (points - 1) + ") with one more, count(3)", 4, grid.count(3));
        }
    }

    /** "this is done behind each action": move */
    private static void aMoveThatMakesACrowd() {
        TitheGrid grid = Villages.fourQuarters();
        grid.move(1, 20, 1);
        grid.move(2, 1, 20);
        answers.due("three points in the quarter, count(3)", 4, grid.count(3));
        grid.move(3, 20, 20);
        answers.due("four points in the quarter, count(3)", 7, grid.count(3));
    }

    /** "more points lie in its cell": those that were removed do not */
    private static void removedPointsMakeNoCrowd() {
        TitheGrid grid = new TitheGrid();
        addSpread(grid, 0, 4);
        grid.remove(1);
        addSpread(grid, 4, 5);
        answers.due("count(3) with four of five points", 1, grid.count(3));
        addSpread(grid, 5, 6);
        answers.due("count(3) with five of six points", 4, grid.count(3));
    }

    /** Points in these quarters, at the first and the last columns and rows of them. */
    private static TitheGrid splitOf(int crowd, int... quarters) {
        TitheGrid grid = new TitheGrid();
        grid.setCrowd(crowd);
        for (int point = 0; point < quarters.length; point++) {
            int x = QUARTER_X[quarters[point]] + point % 2 * 31;
            int y = QUARTER_Y[quarters[point]] + point / 2 % 2 * 31;
            grid.add(x, y, 1);
        }
        return grid;
    }

    private static void dueKept(String call, TitheGrid grid, int kept) {
        answers.due(call + ", count(3)", 4, grid.count(3));
        dueCell(call, grid, 0, QUARTER_X[kept], QUARTER_Y[kept], 1);
        int founded = 1;
        for (int quarter = 0; quarter < 4; quarter++) {
            if (quarter != kept) {
                dueCell(call, grid, founded, QUARTER_X[quarter], QUARTER_Y[quarter], 1);
                founded++;
            }
        }
    }

    /** "it keeps the quarter in which most points lie"; "for each of the other quarters, in their order, a parish" */
    private static void eachQuarterCanBeKept() {
        for (int kept = 0; kept < 4; kept++) {
            for (int other = 0; other < 4; other++) {
                if (other != kept) {
                    dueKept("two in " + kept + ", one in " + other, splitOf(2, other, kept, kept), kept);
                }
            }
        }
    }

    /** "of several the first one" */
    private static void ofTwoFullestTheFirstIsKept() {
        for (int first = 0; first < 4; first++) {
            for (int second = first + 1; second < 4; second++) {
                String call = "two in " + first + " and in " + second;
                dueKept(call, splitOf(3, first, first, second, second), first);
                dueKept(call, splitOf(3, second, second, first, first), first);
            }
        }
    }

    /** "of several the first one": of three, and of all four */
    private static void ofThreeAndFourFullestTheFirstIsKept() {
        dueKept("one in each", splitOf(3, 3, 2, 1, 0), 0);
        dueKept("one in 1, 2 and 3", splitOf(2, 3, 2, 1), 1);
        dueKept("one in 0, 2 and 3", splitOf(2, 2, 3, 0), 0);
        dueKept("one in 0, 1 and 3", splitOf(2, 3, 1, 0), 0);
        dueKept("one in 0, 1 and 2", splitOf(2, 2, 1, 0), 0);
    }

    /** "most points": one more is enough */
    private static void onePointMoreIsKept() {
        for (int first = 0; first < 4; first++) {
            for (int second = first + 1; second < 4; second++) {
                dueKept("two in " + first + ", three in " + second, splitOf(4, first, second, first, second, second), second);
            }
        }
    }

    /** "the quarter in which most points lie": of the cell's own, however many lie in the cells next to it */
    private static void pointsNextToTheCellAreNotCounted() {
        for (int split = 0; split < 4; split++) {
            for (int crowded = 0; crowded < 4; crowded++) {
                if (crowded != split) {
                    dueKeptBeside(split, crowded);
                }
            }
        }
    }

    /** Three points in the far corner of a quarter of the map, and six where another one touches it. */
    private static void dueKeptBeside(int split, int crowded) {
        int farX = split % 2 * 63;
        int farY = split / 2 * 63;
        TitheGrid grid = new TitheGrid();
        grid.setCrowd(2);
        for (int point = 0; point < 6; point++) {
            grid.add(31 + crowded % 2, 31 + crowded / 2, 1);
            answers.due("at the middle", 0, grid.at(31 + crowded % 2, 31 + crowded / 2));
        }
        int parish = grid.at(farX, farY);
        String call = "six points in the quarter " + crowded + ", three in " + split;
        answers.due(call + ", scale before", 1, grid.parish(parish, 2));
        for (int point = 0; point < 3; point++) {
            grid.add(farX, farY, 1);
        }
        dueCell(call, grid, parish, split % 2 * 60, split / 2 * 60, 4);
        answers.due(call + ", points of the one that is kept", 3, grid.parish(parish, 3));
        answers.due(call + ", debts to it", 0, grid.parish(parish, 7));
    }

    /** Five points in the quarter 0, which is kept, and some in the quarter 1, which 1 is founded for. */
    private static int debtOf(TitheGrid grid, int number) {
        grid.setCrowd(9);
        int[] columns = {0, 16, 0, 16, 1};
        int[] rows = {0, 0, 16, 16, 1};
        for (int point = 0; point < 5; point++) {
            grid.add(columns[point], rows[point], 1);
        }
        for (int point = 0; point < number; point++) {
            grid.add(63 - point * 4, 31 - point * 4, 100);
        }
        grid.setCrowd(4 + number);
        return grid.debt(1, 0);
    }

    /** "the number of all points in its quarter divided by the tithe (1 to 9 ...), rounded up" */
    private static void debtsForEachTithe() {
        int[][] debts = {
            {0, 1, 2, 3, 4, 5}, {0, 1, 1, 2, 2, 3}, {0, 1, 1, 1, 2, 2}, {0, 1, 1, 1, 1, 2}, {0, 1, 1, 1, 1, 1},
            {0, 1, 1, 1, 1, 1}, {0, 1, 1, 1, 1, 1}, {0, 1, 1, 1, 1, 1}, {0, 1, 1, 1, 1, 1}
        };
        for (int tithe = 1; tithe <= 9; tithe++) {
            for (int number = 0; number <= 5; number++) {
                TitheGrid grid = new TitheGrid();
                grid.setTithe(tithe);
                answers.due("tithe " + tithe + ", debt for " + number + " points", debts[tithe - 1][number],
                    debtOf(grid, number));
                answers.due("debt of an empty quarter", 0, grid.debt(3, 0));
                answers.due("debt of the one that was split", 0, grid.parish(0, 6));
            }
        }
    }

    /** "the tithe (...; at first 3)" */
    private static void theFirstTitheIs3() {
        answers.due("debt for three points", 1, debtOf(new TitheGrid(), 3));
        answers.due("debt for four points", 2, debtOf(new TitheGrid(), 4));
    }

    /** "and fewer than 38 parishes have been founded": with 37 a split is made still */
    private static void parishesBelow38AreSplitStill() {
        TitheGrid grid = Villages.thirtySevenParishes();
        grid.add(63, 0, 1);
        grid.add(63, 0, 1);
        answers.due("count(3), nothing crowded", 37, grid.count(3));
        grid.add(63, 0, 1);
        answers.due("count(3), one split more", 40, grid.count(3));
        dueCell("one split more", grid, 1, 48, 0, 2);
    }

    /** "... fewer than 38": with 40 none is made, whichever parish is crowded by whichever action */
    private static void parishesFrom38OnAreNotSplit() {
        TitheGrid grid = Villages.fortyParishes();
        answers.due("points of the crowded parish 1", 3, grid.parish(1, 3));
        dueCell("crowded", grid, 1, 48, 0, 2);
        for (int point = 0; point < 4; point++) {
            grid.add(0, 63, 1);
        }
        grid.move(0, 63, 31);
        grid.setCrowd(9);
        grid.setCrowd(2);
        dueCell("crowded", grid, 2, 0, 32, 1);
        answers.due("points of the crowded parish 2", 4, grid.parish(2, 3));
        answers.due("count(3)", 40, grid.count(3));
        answers.due("count(2)", 40, grid.count(2));
    }

    /** "Parishes are numbered from 0 ...; there are at most 40" */
    private static void parishesAreNumberedUpTo39() {
        TitheGrid grid = Villages.fortyParishes();
        dueCell("forty", grid, 37, 32, 0, 2);
        dueCell("forty", grid, 38, 32, 16, 2);
        dueCell("forty", grid, 39, 48, 16, 2);
        answers.due("parish(40, 2)", -1, grid.parish(40, 2));
        answers.due("at(63, 31)", 39, grid.at(63, 31));
        TitheGrid fewer = Villages.thirtySevenParishes();
        answers.due("of 37, parish(36, 2)", 4, fewer.parish(36, 2));
        answers.due("of 37, parish(37, 2)", -1, fewer.parish(37, 2));
    }

    /** "at most 40, dissolved ones included": their numbers are not used again, and they count for the 38 */
    private static void dissolvedParishesAreIncluded() {
        TitheGrid grid = Villages.thirtySevenParishes();
        grid.remove(14);
        answers.due("join(3)", 3, grid.join(3));
        answers.due("count(2)", 34, grid.count(2));
        answers.due("count(3)", 37, grid.count(3));
        for (int point = 0; point < 3; point++) {
            grid.add(63, 0, 1);
        }
        answers.due("count(2) behind a split", 37, grid.count(2));
        answers.due("count(3) behind a split", 40, grid.count(3));
        dueCell("the last one founded", grid, 39, 48, 16, 2);
        dueCell("not split any more", grid, 1, 48, 0, 2);
    }

    /** "the one of these with the smallest number is split": of two, when one split is left */
    private static void theSmallestNumberIsSplitAtTheBound() {
        TitheGrid grid = Villages.thirtySevenParishes();
        grid.setCrowd(9);
        int[] places = {0, 32, 20, 32, 0, 50, 32, 0, 50, 0, 32, 20};
        for (int index = 0; index < places.length; index += 2) {
            grid.add(places[index], places[index + 1], 1);
        }
        answers.due("count(3)", 37, grid.count(3));
        grid.setCrowd(2);
        answers.due("count(3)", 40, grid.count(3));
        dueCell("the smaller of two", grid, 1, 32, 0, 2);
        dueCell("the greater of two", grid, 2, 0, 32, 1);
        answers.due("points of the greater of two", 3, grid.parish(2, 3));
    }

    /** "a crowded parish whose cell has a scale less than 4 ... the one of these": not the parish 0 of the scale 4 */
    private static void aFinestParishIsPassedOver() {
        TitheGrid grid = threePoints(0);
        answers.due("count(3)", 13, grid.count(3));
        grid.add(32, 32, 1);
        grid.add(63, 32, 1);
        grid.add(32, 63, 1);
        answers.due("count(3)", 16, grid.count(3));
        dueCell("crowded behind a finest one", grid, 3, 32, 32, 2);
        dueCell("the finest one", grid, 0, 0, 0, 4);
    }
}
