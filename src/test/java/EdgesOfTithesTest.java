/** The edges of lords, tithes and joins, and of promises 7, 8, 18 and 20, a test for each sentence that names one. */
public final class EdgesOfTithesTest {
    private static final int INVALID = -1;
    private static final int STATE = -2;
    private static final int NONE = -9;
    private static final int[] QUARTER_X = {0, 32, 0, 32};
    private static final int[] QUARTER_Y = {0, 0, 32, 32};
    private static final Answers answers = new Answers();

    public static void main(String[] args) {
        anAddedPointPaysToItsCell();
        anAddedPointPaysBehindItsSplit();
        aSplitTakesPointsOfFoundedQuarters();
        aSplitLeavesPointsOfOtherLords();
        aMoveFromTheLordsCellChangesTheLord();
        aMoveFromAnotherCellLeavesTheLord();
        payTakesParishesThatThereAre();
        payableTakesParishesThatThereAre();
        payNeedsADebt();
        payNeedsAPoint();
        payEndsWithTheDebt();
        payEndsWithThePoints();
        payEndsWithBoth();
        payGivesNoPointElsewhere();
        payGivesNoPointOfAnother();
        payGivesThePoorestFirst();
        payGivesTheSmallestNumberOfThePoorest();
        aDebtIsLessByOneForEach();
        theFirstAndTheLastPointArePaid();
        theLastParishPaysAndIsJoined();
        joinTakesParishesThatThereAre();
        joinNamesArgumentsBeforeTheState();
        joinRefusesTheWholeMap();
        joinTakesAsManyPointsAsTheCrowd();
        joinCountsPointsWhoeverIsTheirLord();
        joinRefusesQuartersThatAreSplit();
        joinTakesTheFinestQuarters();
        theSmallestNumberHasTheWholeCell();
        theSmallestNumberNeedNotBeTheFirst();
        aJoinPassesPointsOn();
        aDebtToItselfIsGone();
        debtsToOthersStand();
        joinableIsNoneForTheWholeMap();
        joinableTakesAsManyPointsAsTheCrowd();
        joinableIsTheSmallestOfSeveral();
        answers.end();
    }

    /** "When a point is added, this is the parish of the cell in which it lies": on both sides of the borders */
    private static void anAddedPointPaysToItsCell() {
        int[] columns = {31, 32, 31, 32};
        int[] rows = {31, 31, 32, 32};
        TitheGrid grid = Villages.fourQuarters();
        for (int quarter = 0; quarter < 4; quarter++) {
            answers.due("add in the quarter " + quarter, 4 + quarter, grid.add(columns[quarter], rows[quarter], 1));
            answers.due("its lord", quarter, grid.point(4 + quarter, 4));
            answers.due("its parish", quarter, grid.point(4 + quarter, 3));
        }
        answers.due("count(3)", 4, grid.count(3));
    }

    /** "this is done behind each action": the point that makes the crowd has its lord ahead of the split */
    private static void anAddedPointPaysBehindItsSplit() {
        TitheGrid grid = new TitheGrid();
        grid.setCrowd(2);
        grid.add(0, 0, 1);
        grid.add(20, 0, 1);
        answers.due("add(63, 63, 1)", 2, grid.add(63, 63, 1));
        answers.due("point(2, 4)", 3, grid.point(2, 4));
        answers.due("debt(3, 0)", 1, grid.debt(3, 0));
    }

    /** "the points whose lord it is and that lie in a quarter of a founded parish get this one for their lord" */
    private static void aSplitTakesPointsOfFoundedQuarters() {
        TitheGrid grid = Villages.theSecondIsSplit();
        int[] lords = {0, 0, 1, 4, 1};
        for (int point = 0; point < lords.length; point++) {
            answers.due("point(" + point + ", 4)", lords[point], grid.point(point, 4));
            answers.due("point(" + point + ", 3)", lords[point], grid.point(point, 3));
        }
        answers.due("count(7)", 0, grid.count(7));
    }

    /** "the points whose lord it is": others that lie there keep theirs */
    private static void aSplitLeavesPointsOfOtherLords() {
        TitheGrid grid = Villages.fourQuarters();
        grid.pay(1);
        grid.add(60, 1, 1);
        grid.add(61, 25, 1);
        grid.add(40, 25, 1);
        answers.due("count(3)", 7, grid.count(3));
        int[] lords = {0, 4, 6, 5};
        int[] parishes = {1, 4, 6, 5};
        int[] points = {1, 4, 5, 6};
        for (int index = 0; index < points.length; index++) {
            answers.due("point(" + points[index] + ", 4)", lords[index], grid.point(points[index], 4));
            answers.due("point(" + points[index] + ", 3)", parishes[index], grid.point(points[index], 3));
        }
        answers.due("parish(1, 4)", 0, grid.parish(1, 4));
    }

    /** "When a point is moved, and its lord is the parish of the cell that it leaves" */
    private static void aMoveFromTheLordsCellChangesTheLord() {
        TitheGrid grid = Villages.fourQuarters();
        answers.due("move(0, 32, 0)", 1, grid.move(0, 32, 0));
        answers.due("point(0, 4)", 1, grid.point(0, 4));
        answers.due("move(0, 32, 31), within the cell", 0, grid.move(0, 32, 31));
        answers.due("point(0, 4)", 1, grid.point(0, 4));
        answers.due("move(0, 32, 32)", 1, grid.move(0, 32, 32));
        answers.due("point(0, 4)", 3, grid.point(0, 4));
    }

    /** "otherwise its lord stays": also when the point comes home to it, and when it does not leave the cell */
    private static void aMoveFromAnotherCellLeavesTheLord() {
        TitheGrid grid = Villages.fourQuarters();
        grid.pay(1);
        int[][] moves = {{40, 2}, {63, 31}, {63, 32}, {0, 63}, {31, 31}, {0, 0}};
        for (int[] move : moves) {
            answers.due("move(1, " + move[0] + ", " + move[1] + ")", 0, grid.move(1, move[0], move[1]));
            answers.due("point(1, 4)", 0, grid.point(1, 4));
        }
        answers.due("move(1, 0, 32), from its lord's cell now", 1, grid.move(1, 0, 32));
        answers.due("point(1, 4)", 2, grid.point(1, 4));
    }

    /** "parish: a parish", "INVALID_ARGUMENT if there is no such parish" */
    private static void payTakesParishesThatThereAre() {
        answers.dueFromTo("of one, pay(n)", 0, 0, n -> 0, n -> new TitheGrid().pay(n));
        answers.dueFromTo("of four, pay(n)", 0, 3, n -> n == 0 ? 0 : 1, n -> Villages.fourQuarters().pay(n));
        answers.dueFromTo("of one that joined four, pay(n)", 0, 0, n -> 0, n -> Villages.joinedAgain().pay(n));
        answers.dueFromTo("of forty, pay(n) or 0", 0, 39, n -> 0, n -> Math.min(0, Villages.fortyParishes().pay(n)));
    }

    /** "parish: a parish", "INVALID_ARGUMENT if there is no such parish" */
    private static void payableTakesParishesThatThereAre() {
        answers.dueFromTo("of one, payable(n)", 0, 0, n -> 0, n -> new TitheGrid().payable(n));
        answers.dueFromTo("of four, payable(n)", 0, 3, n -> n == 0 ? 0 : 1, n -> Villages.fourQuarters().payable(n));
        answers.dueFromTo("of one that joined four, payable(n)", 0, 0, n -> 0, n -> Villages.joinedAgain().payable(n));
        answers.dueFromTo("of forty, payable(n) or 0", 0, 39, n -> 0,
            n -> Math.min(0, Villages.fortyParishes().payable(n)));
    }

    private static void duePay(String when, TitheGrid grid, int parish, int given, int debtBehind) {
        answers.due(when + ", payable(" + parish + ")", given, grid.payable(parish));
        answers.due(when + ", pay(" + parish + ")", given, grid.pay(parish));
        answers.due(when + ", debts behind it", debtBehind, grid.parish(parish, 6));
        answers.due(when + ", payable(" + parish + ") behind it", 0, grid.payable(parish));
        answers.due(when + ", pay(" + parish + ") again", 0, grid.pay(parish));
        answers.due(when + ", debts behind it", debtBehind, grid.parish(parish, 6));
    }

    /** "as long as it has a debt": with points and none */
    private static void payNeedsADebt() {
        TitheGrid grid = Villages.threeInTheSecond(3, 1, 2, 3);
        answers.due("parish(0, 4)", 4, grid.parish(0, 4));
        duePay("four points, no debt", grid, 0, 0, 0);
        answers.due("parish(0, 4)", 4, grid.parish(0, 4));
        duePay("no points, no debt", grid, 2, 0, 0);
    }

    /** "and a point": with a debt and none */
    private static void payNeedsAPoint() {
        TitheGrid grid = Villages.fourQuarters();
        grid.remove(3);
        duePay("no points, a debt", grid, 3, 0, 1);
        answers.due("debt(3, 0)", 1, grid.debt(3, 0));
        grid.add(63, 63, 100);
        duePay("a point, a debt", grid, 3, 1, 0);
    }

    /** "as long as it has a debt": one less than it has points */
    private static void payEndsWithTheDebt() {
        TitheGrid grid = Villages.threeInTheSecond(2, 1, 2, 3);
        duePay("three points, two owed", grid, 1, 2, 0);
        answers.due("parish(1, 4)", 1, grid.parish(1, 4));
        answers.due("parish(0, 4)", 6, grid.parish(0, 4));
    }

    /** "as long as it has ... a point": one less than it owes */
    private static void payEndsWithThePoints() {
        TitheGrid grid = Villages.threeInTheSecond(1, 1, 2, 3);
        grid.remove(5);
        duePay("two points, three owed", grid, 1, 2, 1);
        answers.due("parish(1, 4)", 0, grid.parish(1, 4));
        answers.due("parish(0, 4)", 6, grid.parish(0, 4));
    }

    /** As many points as it owes. */
    private static void payEndsWithBoth() {
        TitheGrid grid = Villages.threeInTheSecond(1, 1, 2, 3);
        duePay("three points, three owed", grid, 1, 3, 0);
        answers.due("parish(1, 4)", 0, grid.parish(1, 4));
        answers.due("parish(0, 4)", 7, grid.parish(0, 4));
    }

    /** "a point that lies in its cell" */
    private static void payGivesNoPointElsewhere() {
        TitheGrid grid = Villages.theSecondIsSplit();
        answers.due("pay(4)", 1, grid.pay(4));
        answers.due("point(3, 4), which lies in 4", 1, grid.point(3, 4));
        grid.remove(2);
        grid.remove(4);
        answers.due("debt(1, 0)", 1, grid.debt(1, 0));
        answers.due("parish(1, 4)", 1, grid.parish(1, 4));
        duePay("a point elsewhere, one owed", grid, 1, 0, 1);
        grid.move(3, 47, 15);
        answers.due("point(3, 3), at the edge of the cell of 1", 1, grid.point(3, 3));
        duePay("the point at home, one owed", grid, 1, 1, 0);
    }

    /** "... and has it for its lord" */
    private static void payGivesNoPointOfAnother() {
        TitheGrid grid = Villages.threeInTheSecond(1, 1, 2, 3);
        grid.remove(4);
        grid.remove(5);
        duePay("one point, three owed", grid, 1, 1, 2);
        answers.due("parish(1, 3), a point of 0", 1, grid.parish(1, 3));
        answers.due("parish(1, 4)", 0, grid.parish(1, 4));
        grid.add(63, 31, 1);
        duePay("one point more, two owed", grid, 1, 1, 1);
    }

    /** "the poorest of these" gives way first, at both ends of wealth */
    private static void payGivesThePoorestFirst() {
        int[][] rows = {
            {1, 2, 3, 4}, {2, 1, 3, 5}, {3, 2, 1, 6}, {100, 99, 100, 5}, {99, 100, 100, 4}, {100, 100, 99, 6}, {100, 1, 50, 5}
        };
        for (int[] row : rows) {
            dueGiven(row);
        }
    }

    /** "of several the one with the smallest number" */
    private static void payGivesTheSmallestNumberOfThePoorest() {
        int[][] rows = {{1, 1, 1, 4}, {100, 100, 100, 4}, {2, 1, 1, 5}, {1, 2, 1, 4}, {1, 1, 2, 4}, {100, 99, 99, 5}};
        for (int[] row : rows) {
            dueGiven(row);
        }
    }

    private static void dueGiven(int[] row) {
        TitheGrid grid = Villages.threeInTheSecond(3, row[0], row[1], row[2]);
        String wealths = "wealths " + row[0] + ", " + row[1] + ", " + row[2];
        answers.due(wealths + ", pay(1)", 1, grid.pay(1));
        for (int point = 4; point <= 6; point++) {
            answers.due(wealths + ", point(" + point + ", 4)", point == row[3] ? 0 : 1, grid.point(point, 4));
        }
    }

    /** "this debt is less by 1" */
    private static void aDebtIsLessByOneForEach() {
        TitheGrid grid = Villages.threeInTheSecond(1, 1, 2, 3);
        grid.remove(4);
        grid.remove(5);
        for (int debt = 3; debt > 0; debt--) {
            answers.due("debt(1, 0)", debt, grid.debt(1, 0));
            answers.due("parish(0, 7)", debt, grid.parish(0, 7));
            answers.due("count(6)", debt, grid.count(6));
            answers.due("pay(1)", 1, grid.pay(1));
            grid.add(63, 0, 1);
        }
        answers.due("debt(1, 0)", 0, grid.debt(1, 0));
        answers.due("pay(1)", 0, grid.pay(1));
        answers.due("count(6)", 0, grid.count(6));
    }

    /** "There are at most 40 points, numbered from 0": 0 and 39 alone in the quarter of the parish that owes */
    private static void theFirstAndTheLastPointArePaid() {
        TitheGrid grid = new TitheGrid();
        grid.setCrowd(2);
        grid.add(0, 0, 1);
        grid.add(40, 0, 1);
        grid.add(60, 0, 1);
        answers.due("point(0, 4)", 1, grid.point(0, 4));
        duePay("the first point", grid, 1, 1, 0);
        answers.due("point(0, 4)", 0, grid.point(0, 4));
        grid = new TitheGrid();
        grid.setCrowd(2);
        for (int point = 0; point < 39; point++) {
            grid.add(32 + point % 2 * 31, 0, 1);
            if (point < 37) {
                grid.remove(point);
            }
        }
        answers.due("add", 39, grid.add(0, 0, 1));
        answers.due("point(39, 4)", 1, grid.point(39, 4));
        duePay("the last point", grid, 1, 1, 0);
        answers.due("point(39, 4)", 0, grid.point(39, 4));
        answers.due("move(39, 63, 63), as its lord is 0", 0, grid.move(39, 63, 63));
        answers.due("remove(39)", 2, grid.remove(39));
    }

    /** "Parishes are numbered from 0 ...; there are at most 40": 39 owes to 1, pays, and is dissolved */
    private static void theLastParishPaysAndIsJoined() {
        TitheGrid grid = Villages.thirtySevenParishes();
        grid.add(63, 0, 1);
        grid.add(62, 0, 1);
        grid.add(63, 31, 1);
        answers.due("point(17, 4)", 39, grid.point(17, 4));
        answers.due("debt(39, 1)", 1, grid.debt(39, 1));
        answers.due("parish(1, 7)", 1, grid.parish(1, 7));
        answers.due("join(39) with three points", STATE, grid.join(39));
        duePay("a point, one owed", grid, 39, 1, 0);
        answers.due("point(17, 4)", 1, grid.point(17, 4));
        grid.remove(15);
        answers.due("join(39)", 1, grid.join(39));
        answers.due("pay(39)", INVALID, grid.pay(39));
        answers.due("parish(39, 2)", INVALID, grid.parish(39, 2));
        answers.due("count(2)", 37, grid.count(2));
    }

    private static TitheGrid joinableQuarters() {
        TitheGrid grid = Villages.fourQuarters();
        grid.setCrowd(4);
        return grid;
    }

    /** "parish: a parish", "INVALID_ARGUMENT if there is no such parish" */
    private static void joinTakesParishesThatThereAre() {
        answers.dueFromTo("of four, join(n)", 0, 3, n -> 0, n -> joinableQuarters().join(n));
        answers.dueFromTo("of four, too many points, join(n)", 0, 3, n -> STATE, n -> Villages.fourQuarters().join(n));
        answers.dueFromTo("of one that joined four, join(n)", 0, 0, n -> STATE, n -> Villages.joinedAgain().join(n));
    }

    /** "INVALID_ARGUMENT ...; ILLEGAL_STATE": of several errors the one that is listed first */
    private static void joinNamesArgumentsBeforeTheState() {
        answers.dueFromTo("new, join(n)", 0, 0, n -> STATE, n -> new TitheGrid().join(n));
        answers.dueFromTo("of forty, join(n) or -2", 0, 39, n -> STATE,
            n -> Villages.fortyParishes().join(n) == INVALID ? INVALID : STATE);
    }

    /** "ILLEGAL_STATE if its cell is the whole map", however few points there are */
    private static void joinRefusesTheWholeMap() {
        TitheGrid grid = new TitheGrid();
        answers.due("no points, join(0)", STATE, grid.join(0));
        grid.add(1, 1, 1);
        answers.due("a point, join(0)", STATE, grid.join(0));
        grid = joinableQuarters();
        answers.due("join(0)", 0, grid.join(0));
        answers.due("parish(0, 2)", 0, grid.parish(0, 2));
        answers.due("join(0) again", STATE, grid.join(0));
    }

    /** Four quarters of the map with as many points as told, and this crowd; no quarter is crowded. */
    private static TitheGrid quartersWith(int crowd, int points) {
        TitheGrid grid = new TitheGrid();
        grid.setCrowd(2);
        for (int point = 0; point < 3; point++) {
            grid.add(QUARTER_X[point], QUARTER_Y[point], 1);
        }
        grid.setCrowd(crowd);
        for (int point = 3; point < points; point++) {
            grid.add(QUARTER_X[point % 4] + point, QUARTER_Y[point % 4], 1);
        }
        for (int point = 2; point >= points; point--) {
            grid.remove(point);
        }
        return grid;
    }

    /** "if together not more points than the crowd lie in them" */
    private static void joinTakesAsManyPointsAsTheCrowd() {
        for (int crowd = 2; crowd <= 9; crowd++) {
            String call = "crowd " + crowd + ", join(3) ";
            answers.due(call + "with none", 0, quartersWith(crowd, 0).join(3));
            answers.due(call + "with one less", 0, quartersWith(crowd, crowd - 1).join(3));
            answers.due(call + "with as many", 0, quartersWith(crowd, crowd).join(3));
            answers.due(call + "with one more", STATE, quartersWith(crowd, crowd + 1).join(3));
            answers.due("crowd " + crowd + ", count(2) with one more", 4, quartersWith(crowd, crowd + 1).count(2));
        }
    }

    /** "points ... lie in them": of other lords too, and not own ones that lie elsewhere */
    private static void joinCountsPointsWhoeverIsTheirLord() {
        TitheGrid grid = Villages.fourQuarters();
        grid.pay(1);
        grid.pay(2);
        grid.pay(3);
        answers.due("four points of 0, crowd 3, join(1)", STATE, grid.join(1));
        grid.setCrowd(4);
        answers.due("four points of 0, crowd 4, join(1)", 0, grid.join(1));
        grid = Villages.theSecondIsSplit();
        grid.pay(4);
        answers.due("three points, crowd 2, join(5)", STATE, grid.join(5));
        answers.due("move(3, 0, 63)", 0, grid.move(3, 0, 63));
        answers.due("parish(1, 4)", 3, grid.parish(1, 4));
        answers.due("two points, one elsewhere, crowd 2, join(5)", 1, grid.join(5));
    }

    /** "Four quarters of a cell, none of which is split": each of the four */
    private static void joinRefusesQuartersThatAreSplit() {
        for (int quarter = 0; quarter < 4; quarter++) {
            TitheGrid grid = new TitheGrid();
            grid.setCrowd(2);
            grid.add(QUARTER_X[quarter], QUARTER_Y[quarter], 1);
            grid.add(QUARTER_X[quarter] + 16, QUARTER_Y[quarter], 1);
            grid.add(QUARTER_X[quarter], QUARTER_Y[quarter] + 16, 1);
            answers.due("count(3)", 7, grid.count(3));
            grid.setCrowd(9);
            for (int parish = 1; parish <= 3; parish++) {
                answers.due("quarter " + quarter + " is split, join(" + parish + ")", STATE, grid.join(parish));
            }
            answers.due("quarter " + quarter + " is split, joinable()", 0, grid.joinable());
            answers.due("quarter " + quarter + ", join(6) of its own quarters", 0, grid.join(6));
            answers.due("quarter " + quarter + " is whole, join(3)", 0, grid.join(3));
            answers.due("count(2)", 1, grid.count(2));
        }
    }

    /** Quarters of the scale 4 are joined, and so on up to the whole map. */
    private static void joinTakesTheFinestQuarters() {
        TitheGrid grid = Villages.fortyPoints();
        answers.due("forty points, join(12)", STATE, grid.join(12));
        for (int point = 39; point >= 5; point--) {
            grid.remove(point);
        }
        answers.due("five points, join(12)", STATE, grid.join(12));
        grid.remove(4);
        int[] asked = {12, 9, 6, 3};
        for (int scale = 3; scale >= 0; scale--) {
            answers.due("four points, join(" + asked[3 - scale] + ")", 0, grid.join(asked[3 - scale]));
            answers.due("parish(0, 0)", scale == 0 ? 0 : 64 - (64 >> scale), grid.parish(0, 0));
            answers.due("parish(0, 1)", scale == 0 ? 0 : 64 - (64 >> scale), grid.parish(0, 1));
            answers.due("parish(0, 2)", scale, grid.parish(0, 2));
            answers.due("count(2)", 1 + 3 * scale, grid.count(2));
        }
    }

    /** "The parish with the smallest number of the four has the whole cell then", whichever of them is asked */
    private static void theSmallestNumberHasTheWholeCell() {
        for (int kept = 0; kept < 4; kept++) {
            for (int asked = 0; asked < 4; asked++) {
                TitheGrid grid = new TitheGrid();
                grid.setCrowd(2);
                grid.add(QUARTER_X[kept], QUARTER_Y[kept], 1);
                grid.add(QUARTER_X[kept] + 16, QUARTER_Y[kept], 1);
                grid.add(63 - QUARTER_X[kept], 63 - QUARTER_Y[kept], 1);
                grid.setCrowd(3);
                answers.due("0 in the quarter " + kept + ", join(" + asked + ")", 0, grid.join(asked));
                answers.dueFromTo("behind it, parish(n, 2)", 0, 0, n -> 0, n -> grid.parish(n, 2));
            }
        }
    }

    /** "the smallest number of the four": when the parish 0 lies elsewhere */
    private static void theSmallestNumberNeedNotBeTheFirst() {
        for (int asked : new int[] {1, 4, 5, 6}) {
            TitheGrid grid = Villages.theSecondIsSplit();
            grid.remove(4);
            answers.due("join(" + asked + ")", 1, grid.join(asked));
            answers.due("parish(1, 0)", 32, grid.parish(1, 0));
            answers.due("parish(1, 1)", 0, grid.parish(1, 1));
            answers.due("parish(1, 2)", 1, grid.parish(1, 2));
            answers.dueFromTo("behind it, parish(n, 2)", 0, 3, n -> 1, n -> grid.parish(n, 2));
            answers.due("count(3)", 7, grid.count(3));
        }
    }

    /** "it becomes the lord of the points whose lord they were": also of one that lies far from the cell */
    private static void aJoinPassesPointsOn() {
        int[][] corners = {{0, 0, 0}, {0, 63, 2}, {63, 63, 3}};
        for (int[] corner : corners) {
            TitheGrid grid = Villages.theSecondIsSplit();
            grid.add(56, 1, 10);
            grid.add(62, 15, 10);
            answers.due("parish(4, 2), which is split", 3, grid.parish(4, 2));
            answers.due("debt(9, 4)", 1, grid.debt(9, 4));
            answers.due("pay(9)", 1, grid.pay(9));
            answers.due("point(6, 4)", 4, grid.point(6, 4));
            grid.setCrowd(9);
            answers.due("move(6, ..) to a corner", 0, grid.move(6, corner[0], corner[1]));
            answers.due("join(9)", 4, grid.join(9));
            answers.due("point(6, 4), whose lord joined others", 4, grid.point(6, 4));
            answers.due("join(4)", 1, grid.join(4));
            answers.due("parish(4, 0)", INVALID, grid.parish(4, 0));
            answers.due("point(6, 3)", corner[2], grid.point(6, 3));
            answers.due("point(6, 4), whose lord is dissolved", 1, grid.point(6, 4));
            answers.due("parish(1, 4)", 5, grid.parish(1, 4));
        }
    }

    /** "a debt of it to itself is gone" */
    private static void aDebtToItselfIsGone() {
        TitheGrid grid = joinableQuarters();
        grid.pay(2);
        answers.due("count(6)", 2, grid.count(6));
        answers.due("join(2)", 0, grid.join(2));
        answers.due("count(6)", 0, grid.count(6));
        answers.due("debt(0, 0)", 0, grid.debt(0, 0));
        answers.due("parish(0, 6)", 0, grid.parish(0, 6));
        answers.due("parish(0, 7)", 0, grid.parish(0, 7));
        answers.due("payable(0)", 0, grid.payable(0));
    }

    /** "their debts become its debts": and the ones that it has to others stand */
    private static void debtsToOthersStand() {
        TitheGrid grid = Villages.theSecondIsSplit();
        grid.remove(4);
        answers.due("count(6)", 2, grid.count(6));
        answers.due("join(6)", 1, grid.join(6));
        answers.due("count(6)", 1, grid.count(6));
        answers.due("debt(1, 0)", 1, grid.debt(1, 0));
        answers.due("debt(1, 1)", 0, grid.debt(1, 1));
        answers.due("pay(1)", 1, grid.pay(1));
        answers.due("point(3, 4), the poorer one, of the parish 4 before", 0, grid.point(3, 4));
        answers.due("point(2, 4)", 1, grid.point(2, 4));
    }

    /** "NONE if there is none" */
    private static void joinableIsNoneForTheWholeMap() {
        TitheGrid grid = new TitheGrid();
        answers.due("new, joinable()", NONE, grid.joinable());
        grid.add(1, 1, 1);
        answers.due("a point, joinable()", NONE, grid.joinable());
        answers.due("joined again, joinable()", NONE, Villages.joinedAgain().joinable());
    }

    /** "that could be joined": with not more points than the crowd */
    private static void joinableTakesAsManyPointsAsTheCrowd() {
        for (int crowd = 2; crowd <= 9; crowd++) {
            String call = "crowd " + crowd + ", joinable() ";
            answers.due(call + "with none", 0, quartersWith(crowd, 0).joinable());
            answers.due(call + "with as many", 0, quartersWith(crowd, crowd).joinable());
            answers.due(call + "with one more", NONE, quartersWith(crowd, crowd + 1).joinable());
        }
    }

    /** "the parish with the smallest number": of two groups of quarters, and of one alone */
    private static void joinableIsTheSmallestOfSeveral() {
        TitheGrid grid = Villages.theSecondIsSplit();
        answers.due("the quarters of 1 with three points", NONE, grid.joinable());
        grid.add(16, 0, 1);
        answers.due("count(3), with the quarters of 0 too", 10, grid.count(3));
        answers.due("both with three points", NONE, grid.joinable());
        grid.remove(4);
        answers.due("the quarters of 1 with two points", 1, grid.joinable());
        grid.remove(5);
        answers.due("both with two points", 0, grid.joinable());
        answers.due("join(0)", 0, grid.join(0));
        answers.due("the quarters of 1 alone", 1, grid.joinable());
        answers.due("join(1)", 1, grid.join(1));
        answers.due("the map with four points, crowd 2", NONE, grid.joinable());
        grid.setCrowd(4);
        answers.due("the map with four points, crowd 4", 0, grid.joinable());
    }
}
