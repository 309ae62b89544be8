/** The edges of promises 10 to 14, a test for each sentence that names one. */
public final class EdgesOfLookingTest {
    private static final int INVALID = -1;
    private static final Answers answers = new Answers();

    public static void main(String[] args) {
        countTakes0To10();
        countsAreAtTheirLeast();
        countsAreAtTheirGreatest();
        removedPointsAreAddedOnes();
        dissolvedParishesAreFoundedOnes();
        pointsWhoseLordIsElsewhere();
        pointTakesPointsThatThereAre();
        pointTakes0To4();
        parishTakesParishesThatThereAre();
        parishTakes0To7();
        aParishHasAllOrNothing();
        debtsOfAParishTogether();
        debtTakesDebtorsThatThereAre();
        debtTakesCreditorsThatThereAre();
        debtIsZeroWithoutOne();
        debtRefusesDissolvedParishes();
        atTakesColumns0To63();
        atTakesRows0To63();
        answers.end();
    }

    /** "what: 0 ... 10 the number of states in the history" */
    private static void countTakes0To10() {
        int[] counts = {5, 5, 7, 7, 3, 2, 2, 1, 2, 142, 5};
        answers.dueFromTo("count(n)", 0, 10, n -> counts[n], n -> Villages.make().count(n));
    }

    private static void countsAreAtTheirLeast() {
        int[] counts = {0, 0, 1, 1, 4, 3, 0, 0, 0, 0, 0};
        answers.dueFromTo("new, count(n)", 0, 10, n -> counts[n], n -> new TitheGrid().count(n));
    }

    private static void countsAreAtTheirGreatest() {
        int[] points = {40, 40, 13, 13, 4, 3, 0, 0, 4, 4000, 5};
        answers.dueFromTo("forty points, count(n)", 0, 10, n -> points[n], n -> Villages.fortyPoints().count(n));
        int[] parishes = {18, 18, 40, 40, 2, 3, 0, 0, 4, 18, 5};
        answers.dueFromTo("forty parishes, count(n)", 0, 10, n -> parishes[n], n -> Villages.fortyParishes().count(n));
    }

    /** "0 the number of points, 1 of points that have been added", and the wealth of those that are there */
    private static void removedPointsAreAddedOnes() {
        TitheGrid grid = Villages.make();
        int[] wealths = {122, 117, 110, 10, 0};
        int[] removed = {1, 2, 3, 4, 0};
        for (int index = 0; index < 5; index++) {
            grid.remove(removed[index]);
            answers.due("count(0)", 4 - index, grid.count(0));
            answers.due("count(1)", 5, grid.count(1));
            answers.due("count(9)", wealths[index], grid.count(9));
        }
    }

    /** "2 of parishes, 3 of parishes that have been founded (the first one included)" */
    private static void dissolvedParishesAreFoundedOnes() {
        TitheGrid grid = Villages.fourQuarters();
        answers.due("count(2)", 4, grid.count(2));
        answers.due("count(3)", 4, grid.count(3));
        answers.due("count(8)", 1, grid.count(8));
        grid = Villages.joinedAgain();
        answers.due("joined again, count(2)", 1, grid.count(2));
        answers.due("joined again, count(3)", 4, grid.count(3));
        answers.due("joined again, count(8)", 0, grid.count(8));
    }

    /** "7 the number of points whose lord is not the parish in whose cell they lie" */
    private static void pointsWhoseLordIsElsewhere() {
        TitheGrid grid = Villages.fourQuarters();
        for (int parish = 0; parish < 4; parish++) {
            grid.pay(parish);
            answers.due("count(7) behind pay(" + parish + ")", parish, grid.count(7));
        }
        grid.move(3, 31, 31);
        answers.due("count(7) with one at home", 2, grid.count(7));
        grid.move(3, 31, 32);
        answers.due("count(7) with it in another parish", 2, grid.count(7));
        grid.remove(2);
        answers.due("count(7) with one removed", 1, grid.count(7));
    }

    /** "point: a point", "INVALID_ARGUMENT if there is no such point" */
    private static void pointTakesPointsThatThereAre() {
        int[] wealths = {10, 20, 5, 7, 100};
        for (int what = 0; what < 5; what++) {
            int asked = what;
            answers.dueFromTo("of none, point(n, " + what + ")", 0, -1, n -> 0, n -> new TitheGrid().point(n, asked));
            answers.dueFromTo("of forty, point(n, " + what + ")", 0, 39, n -> new int[] {63, 63, 100, 0, 0}[asked],
                n -> Villages.fortyPoints().point(n, asked));
            answers.dueFromTo("of three and one removed, point(n, " + what + ")", 0, 2,
                n -> new int[][] {{1, 1, 9, 0, 0}, {40, 2, 9, 0, 0}, {2, 33, 9, 0, 0}}[n][asked],
                n -> Villages.joinedAgain().point(n, asked));
        }
        answers.dueFromTo("of five, point(n, 2)", 0, 4, n -> wealths[n], n -> Villages.make().point(n, 2));
    }

    /** "what: 0 its x, ... 4 its lord", "or what is out of range" */
    private static void pointTakes0To4() {
        int[] properties = {40, 2, 20, 4, 4};
        answers.dueFromTo("point(1, n)", 0, 4, n -> properties[n], n -> Villages.make().point(1, n));
        int[] paid = {1, 1, 10, 1, 0};
        answers.dueFromTo("point(0, n)", 0, 4, n -> paid[n], n -> Villages.make().point(0, n));
    }

    /** "parish: a parish", "INVALID_ARGUMENT if there is no such parish" */
    private static void parishTakesParishesThatThereAre() {
        int[] scales = {2, 1, 1, 1, 2, 2, 2};
        for (int what = 0; what < 8; what++) {
            int asked = what;
            answers.dueFromTo("of one, parish(n, " + what + ")", 0, 0, n -> 0, n -> new TitheGrid().parish(n, asked));
            answers.dueFromTo("of forty, parish(n, " + what + ") or 0", 0, 39, n -> 0,
                n -> Math.min(0, Villages.fortyParishes().parish(n, asked)));
            answers.dueFromTo("of one that joined four, parish(n, " + what + ")", 0, 0,
                n -> new int[] {0, 0, 0, 3, 3, 27, 0, 0}[asked], n -> Villages.joinedAgain().parish(n, asked));
        }
        answers.dueFromTo("of seven, parish(n, 2)", 0, 6, n -> scales[n], n -> Villages.make().parish(n, 2));
    }

    /** "what: 0 the smallest x ... 7 all that is owed to it", "or what is out of range" */
    private static void parishTakes0To7() {
        int[] properties = {32, 16, 2, 2, 3, 22, 0, 2};
        answers.dueFromTo("parish(0, n)", 0, 7, n -> properties[n], n -> Villages.make().parish(0, n));
        int[] owing = {32, 0, 2, 1, 1, 20, 1, 0};
        answers.dueFromTo("parish(4, n)", 0, 7, n -> owing[n], n -> Villages.make().parish(4, n));
    }

    private static void aParishHasAllOrNothing() {
        int[] all = {60, 60, 4, 40, 40, 4000, 0, 0};
        answers.dueFromTo("forty points, parish(0, n)", 0, 7, n -> all[n], n -> Villages.fortyPoints().parish(0, n));
        int[] nothing = {60, 56, 4, 0, 0, 0, 0, 0};
        answers.dueFromTo("forty points, parish(11, n)", 0, 7, n -> nothing[n], n -> Villages.fortyPoints().parish(11, n));
        int[] lost = {32, 0, 1, 1, 0, 0, 0, 0};
        answers.dueFromTo("its point has paid, parish(1, n)", 0, 7, n -> lost[n], n -> {
            TitheGrid grid = Villages.fourQuarters();
            grid.pay(1);
            return grid.parish(1, n);
        });
    }

    /** "6 all that it owes, 7 all that is owed to it" */
    private static void debtsOfAParishTogether() {
        TitheGrid grid = Villages.fourQuarters();
        int[] owes = {0, 1, 1, 1};
        int[] gets = {3, 0, 0, 0};
        for (int parish = 0; parish < 4; parish++) {
            answers.due("parish(" + parish + ", 6)", owes[parish], grid.parish(parish, 6));
            answers.due("parish(" + parish + ", 7)", gets[parish], grid.parish(parish, 7));
        }
        answers.due("count(6)", 3, grid.count(6));
        grid = Villages.theSecondIsSplit();
        answers.due("parish(1, 6), which owes and gets", 1, grid.parish(1, 6));
        answers.due("parish(1, 7), which owes and gets", 1, grid.parish(1, 7));
        answers.due("count(6)", 2, grid.count(6));
    }

    /** "parish: the parish that owes", "INVALID_ARGUMENT if there are no such parishes" */
    private static void debtTakesDebtorsThatThereAre() {
        answers.dueFromTo("of one, debt(n, 0)", 0, 0, n -> 0, n -> new TitheGrid().debt(n, 0));
        answers.dueFromTo("of four, debt(n, 0)", 0, 3, n -> n > 0 ? 1 : 0, n -> Villages.fourQuarters().debt(n, 0));
        answers.dueFromTo("of forty, debt(n, 39)", 0, 39, n -> 0, n -> Villages.fortyParishes().debt(n, 39));
    }

    /** "creditor: the parish to which it owes" */
    private static void debtTakesCreditorsThatThereAre() {
        answers.dueFromTo("of one, debt(0, n)", 0, 0, n -> 0, n -> new TitheGrid().debt(0, n));
        answers.dueFromTo("of four, debt(3, n)", 0, 3, n -> n > 0 ? 0 : 1, n -> Villages.fourQuarters().debt(3, n));
        answers.dueFromTo("of forty, debt(39, n)", 0, 39, n -> 0, n -> Villages.fortyParishes().debt(39, n));
        answers.dueFromTo("of forty, debt(n, n)", 0, 39, n -> 0, n -> Villages.fortyParishes().debt(n, n));
    }

    /** "Returns the debt, 0 without one": of a parish to itself, the other way round, and when it is paid */
    private static void debtIsZeroWithoutOne() {
        TitheGrid grid = Villages.fourQuarters();
        answers.due("debt(1, 1)", 0, grid.debt(1, 1));
        answers.due("debt(0, 1)", 0, grid.debt(0, 1));
        answers.due("debt(1, 2)", 0, grid.debt(1, 2));
        answers.due("debt(1, 0)", 1, grid.debt(1, 0));
        grid.pay(1);
        answers.due("debt(1, 0), paid", 0, grid.debt(1, 0));
    }

    /** "A parish that is dissolved ... does not exist" */
    private static void debtRefusesDissolvedParishes() {
        answers.dueFromTo("joined again, debt(n, 0)", 0, 0, n -> 0, n -> Villages.joinedAgain().debt(n, 0));
        answers.dueFromTo("joined again, debt(0, n)", 0, 0, n -> 0, n -> Villages.joinedAgain().debt(0, n));
        answers.dueRefused("joined again, debt(n, n)", n -> Villages.joinedAgain().debt(n, n), 1, 2, 3, 4);
        answers.due("debt(1, 40)", INVALID, Villages.fourQuarters().debt(1, 40));
    }

    /** "x: 0 to 63" */
    private static void atTakesColumns0To63() {
        answers.dueFromTo("at(n, 31)", 0, 63, n -> n > 31 ? 1 : 0, n -> Villages.fourQuarters().at(n, 31));
        answers.dueFromTo("new, at(n, 63)", 0, 63, n -> 0, n -> new TitheGrid().at(n, 63));
        answers.dueFromTo("forty points, at(n, 63)", 0, 63, n -> n < 32 ? 3 : n < 48 ? 6 : n < 56 ? 9 : n < 60 ? 12 : 0,
            n -> Villages.fortyPoints().at(n, 63));
    }

    /** "y: 0 to 63" */
    private static void atTakesRows0To63() {
        answers.dueFromTo("at(31, n)", 0, 63, n -> n > 31 ? 2 : 0, n -> Villages.fourQuarters().at(31, n));
        answers.dueFromTo("new, at(63, n)", 0, 63, n -> 0, n -> new TitheGrid().at(63, n));
        answers.dueFromTo("forty points, at(63, n)", 0, 63, n -> n < 32 ? 2 : n < 48 ? 5 : n < 56 ? 8 : n < 60 ? 11 : 0,
            n -> Villages.fortyPoints().at(63, n));
    }
}
