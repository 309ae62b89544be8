/** Promises 10 to 14: count, point, parish, debt, at, on one map that is told in Villages. */
public final class LookingTest {
    private static final Answers answers = new Answers();
    private static final int MIN = Integer.MIN_VALUE;
    private static final int MAX = Integer.MAX_VALUE;

    public static void main(String[] args) {
        counts();
        countsBehindARemove();
        points();
        parishes();
        debts();
        places();
        nothingWasChanged();
        answers.end();
    }

    private static void counts() {
        TitheGrid grid = Villages.make();
        int[] counts = {5, 5, 7, 7, 3, 2, 2, 1, 2, 142, 5};
        for (int what = 0; what < counts.length; what++) {
            answers.due("10: count(" + what + ")", counts[what], grid.count(what));
        }
        for (int what : new int[] {-1, 11, MIN, MAX}) {
            answers.due("10: count(" + what + ")", -1, grid.count(what));
        }
    }

    private static void countsBehindARemove() {
        TitheGrid grid = Villages.make();
        grid.remove(0);
        int[] counts = {4, 5, 7, 7, 3, 2, 2, 0, 2, 132, 5};
        for (int what = 0; what < counts.length; what++) {
            answers.due("10: behind remove(0), count(" + what + ")", counts[what], grid.count(what));
        }
        grid.setCrowd(4);
        grid.join(6);
        counts = new int[] {4, 5, 4, 7, 4, 2, 0, 0, 1, 132, 5};
        for (int what = 0; what < counts.length; what++) {
            answers.due("10: behind join(6), count(" + what + ")", counts[what], grid.count(what));
        }
    }

    private static void points() {
        TitheGrid grid = Villages.make();
        int[][] points = {{1, 1, 10, 1, 0}, {40, 2, 20, 4, 4}, {45, 30, 5, 0, 0}, {33, 20, 7, 0, 0}, {60, 10, 100, 5, 5}};
        for (int point = 0; point < points.length; point++) {
            for (int what = 0; what < 5; what++) {
                answers.due("11: point(" + point + ", " + what + ")", points[point][what], grid.point(point, what));
            }
            for (int what : new int[] {-1, 5, MIN, MAX}) {
                answers.due("11: point(" + point + ", " + what + ")", -1, grid.point(point, what));
            }
        }
        for (int point : new int[] {-1, 5, 39, 40, MIN, MAX}) {
            answers.due("11: point(" + point + ", 0)", -1, grid.point(point, 0));
        }
        grid.remove(3);
        for (int what = 0; what < 5; what++) {
            answers.due("11: of a removed point, point(3, " + what + ")", -1, grid.point(3, what));
        }
    }

    private static void parishes() {
        TitheGrid grid = Villages.make();
        int[][] parishes = {
            {32, 16, 2, 2, 3, 22, 0, 2}, {0, 0, 1, 1, 0, 0, 0, 0}, {0, 32, 1, 0, 0, 0, 0, 0}, {32, 32, 1, 0, 0, 0, 0, 0},
            {32, 0, 2, 1, 1, 20, 1, 0}, {48, 0, 2, 1, 1, 100, 1, 0}, {48, 16, 2, 0, 0, 0, 0, 0}
        };
        for (int parish = 0; parish < parishes.length; parish++) {
            for (int what = 0; what < 8; what++) {
                answers.due("12: parish(" + parish + ", " + what + ")", parishes[parish][what], grid.parish(parish, what));
            }
            for (int what : new int[] {-1, 8, MIN, MAX}) {
                answers.due("12: parish(" + parish + ", " + what + ")", -1, grid.parish(parish, what));
            }
        }
        for (int parish : new int[] {-1, 7, 39, 40, MIN, MAX}) {
            answers.due("12: parish(" + parish + ", 2)", -1, grid.parish(parish, 2));
        }
    }

    private static void debts() {
        TitheGrid grid = Villages.make();
        for (int parish = 0; parish < 7; parish++) {
            for (int creditor = 0; creditor < 7; creditor++) {
                int want = (parish == 4 || parish == 5) && creditor == 0 ? 1 : 0;
                answers.due("13: debt(" + parish + ", " + creditor + ")", want, grid.debt(parish, creditor));
            }
        }
        for (int parish : new int[] {-1, 7, 39, 40, MIN, MAX}) {
            answers.due("13: debt(" + parish + ", 0)", -1, grid.debt(parish, 0));
            answers.due("13: debt(4, " + parish + ")", -1, grid.debt(4, parish));
            answers.due("13: debt of two that are not", -1, grid.debt(parish, parish));
        }
    }

    private static void places() {
        TitheGrid grid = Villages.make();
        int[][] places = {
            {0, 0, 1}, {31, 31, 1}, {32, 0, 4}, {47, 15, 4}, {48, 0, 5}, {63, 15, 5}, {32, 16, 0}, {47, 31, 0},
            {48, 16, 6}, {63, 31, 6}, {0, 32, 2}, {31, 63, 2}, {32, 32, 3}, {63, 63, 3},
            {-1, 0, -1}, {64, 0, -1}, {0, -1, -1}, {0, 64, -1}, {MIN, 0, -1}, {0, MAX, -1}
        };
        for (int[] place : places) {
            answers.due("14: at(" + place[0] + ", " + place[1] + ")", place[2], grid.at(place[0], place[1]));
        }
    }

    private static void nothingWasChanged() {
        TitheGrid grid = Villages.make();
        grid.count(0);
        grid.point(0, 0);
        grid.parish(0, 0);
        grid.debt(4, 0);
        grid.at(0, 0);
        answers.due("undo()", 4, grid.undo());
        answers.due("count(2) behind the undo of the last add", 4, grid.count(2));
    }
}
