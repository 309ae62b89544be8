/** Promises 15 to 20: range, nearest, inOrder, payable, cellsWith, joinable, on the map of Villages. */
public final class RangesTest {
    private static final Answers answers = new Answers();
    private static final int MIN = Integer.MIN_VALUE;
    private static final int MAX = Integer.MAX_VALUE;

    public static void main(String[] args) {
        ranges();
        theFirstOfTheRichest();
        rangeRefusesWrongArguments();
        neighbors();
        order();
        whatParishesWouldGive();
        cellsOfOtherDivisions();
        theFirstThatCanBeJoined();
        nothingWasChanged();
        answers.end();
    }

    private static void ranges() {
        TitheGrid grid = Villages.make();
        int[][] ranges = {
            {0, 0, 63, 63, 5, 142, 7, 4}, {40, 2, 45, 30, 2, 25, 2, 1}, {47, 15, 48, 16, 0, 0, 4, -9},
            {31, 31, 32, 32, 0, 0, 4, -9}, {40, 2, 40, 2, 1, 20, 1, 1}, {0, 0, 0, 0, 0, 0, 1, -9},
            {63, 63, 63, 63, 0, 0, 1, -9}, {0, 0, 31, 31, 1, 10, 1, 0}, {0, 20, 63, 20, 1, 7, 3, 3},
            {33, 0, 33, 63, 1, 7, 3, 3}, {41, 3, 59, 29, 0, 0, 4, -9}, {33, 2, 45, 30, 3, 32, 2, 1},
            {34, 2, 45, 29, 1, 20, 2, 1}
        };
        for (int[] row : ranges) {
            for (int what = 0; what < 4; what++) {
                answers.due("15: range(" + row[0] + ", " + row[1] + ", " + row[2] + ", " + row[3] + ", " + what + ")",
                    row[4 + what], grid.range(row[0], row[1], row[2], row[3], what));
            }
        }
    }

    private static void theFirstOfTheRichest() {
        TitheGrid grid = Villages.make();
        grid.add(0, 0, 100);
        answers.due("15: the richest of the map", 4, grid.range(0, 0, 63, 63, 3));
        answers.due("15: the richest of the quarter", 5, grid.range(0, 0, 31, 31, 3));
        grid.remove(4);
        answers.due("15: the richest behind a remove", 5, grid.range(0, 0, 63, 63, 3));
    }

    private static void rangeRefusesWrongArguments() {
        TitheGrid grid = Villages.make();
        int[][] wrong = {
            {-1, 0, 63, 63, 0}, {0, -1, 63, 63, 0}, {0, 0, 64, 63, 0}, {0, 0, 63, 64, 0}, {64, 0, 64, 63, 0},
            {0, 64, 63, 64, 0}, {5, 0, 4, 63, 0}, {0, 5, 63, 4, 0}, {0, 0, 63, 63, -1}, {0, 0, 63, 63, 4},
            {47, 15, 48, 14, 3}, {MIN, 0, 63, 63, 0}, {0, MIN, 63, 63, 0}, {0, 0, MAX, 63, 0}, {0, 0, 63, MAX, 0},
            {0, 0, 63, 63, MIN}, {0, 0, 63, 63, MAX}, {MIN, MIN, MAX, MAX, 2}
        };
        for (int[] row : wrong) {
            answers.due("15: range(" + row[0] + ", " + row[1] + ", " + row[2] + ", " + row[3] + ", " + row[4] + ")",
                -1, grid.range(row[0], row[1], row[2], row[3], row[4]));
        }
    }

    private static void neighbors() {
        TitheGrid grid = Villages.make();
        int[][] places = {
            {1, 1, 0}, {32, 0, 1}, {45, 16, 2}, {39, 25, 2}, {63, 63, 2}, {63, 0, 4}, {0, 0, 0}, {0, 63, 0},
            {-1, 0, -1}, {64, 0, -1}, {0, -1, -1}, {0, 64, -1}, {MIN, MAX, -1}
        };
        for (int[] place : places) {
            answers.due("16: nearest(" + place[0] + ", " + place[1] + ")", place[2], grid.nearest(place[0], place[1]));
        }
        grid.remove(2);
        answers.due("16: nearest(39, 25) behind remove(2)", 3, grid.nearest(39, 25));
        TitheGrid empty = new TitheGrid();
        answers.due("16: nearest(0, 0) without points", -9, empty.nearest(0, 0));
        answers.due("16: nearest(64, 0) without points", -1, empty.nearest(64, 0));
        empty.add(63, 63, 1);
        answers.due("16: nearest(0, 0) to the farthest point", 0, empty.nearest(0, 0));
        empty.remove(0);
        answers.due("16: nearest(0, 0) without points", -9, empty.nearest(0, 0));
    }

    private static void order() {
        TitheGrid grid = Villages.make();
        int[] order = {1, 4, 5, 0, 6, 2, 3, -9, -9};
        for (int index = 0; index < order.length; index++) {
            answers.due("17: inOrder(" + index + ")", order[index], grid.inOrder(index));
        }
        answers.due("17: inOrder(40)", -9, grid.inOrder(40));
        answers.due("17: inOrder(MAX)", -9, grid.inOrder(MAX));
        answers.due("17: inOrder(-1)", -1, grid.inOrder(-1));
        answers.due("17: inOrder(MIN)", -1, grid.inOrder(MIN));
        TitheGrid deep = new TitheGrid();
        for (int point = 0; point < 5; point++) {
            deep.add(63, 63, 1);
        }
        int[] corner = {1, 2, 3, 4, 5, 6, 7, 8, 9, 10, 11, 12, 0, -9};
        for (int index = 0; index < corner.length; index++) {
            answers.due("17: in the corner, inOrder(" + index + ")", corner[index], deep.inOrder(index));
        }
    }

    private static void whatParishesWouldGive() {
        TitheGrid grid = Villages.make();
        int[] payable = {0, 0, 0, 0, 1, 1, 0, -1};
        for (int parish = 0; parish < payable.length; parish++) {
            answers.due("18: payable(" + parish + ")", payable[parish], grid.payable(parish));
        }
        for (int parish : new int[] {-1, 39, 40, MIN, MAX}) {
            answers.due("18: payable(" + parish + ")", -1, grid.payable(parish));
        }
        answers.due("18: debt(4, 0) behind payable", 1, grid.debt(4, 0));
        answers.due("7: pay(4)", 1, grid.pay(4));
        answers.due("18: payable(4) behind pay", 0, grid.payable(4));
        grid.add(40, 3, 1);
        answers.due("18: payable(4) with points but no debt", 0, grid.payable(4));
        grid.remove(4);
        answers.due("18: payable(5) with a debt but no points", 0, grid.payable(5));
    }

    private static void cellsOfOtherDivisions() {
        TitheGrid grid = Villages.make();
        int[] cells = {7, 7, 4, 1, 1, 1, 1, 1};
        for (int crowd = 2; crowd <= 9; crowd++) {
            answers.due("19: cellsWith(" + crowd + ")", cells[crowd - 2], grid.cellsWith(crowd));
        }
        for (int crowd : new int[] {1, 10, 0, -1, MIN, MAX}) {
            answers.due("19: cellsWith(" + crowd + ")", -1, grid.cellsWith(crowd));
        }
        answers.due("19: count(4) behind cellsWith", 3, grid.count(4));
        grid.remove(1);
        answers.due("19: cellsWith(3), though the map is divided more", 4, grid.cellsWith(3));
        answers.due("19: count(2)", 7, grid.count(2));
        TitheGrid heap = new TitheGrid();
        for (int point = 0; point < 9; point++) {
            heap.add(20, 40, 1);
        }
        answers.due("19: cellsWith(8) of a heap of nine", 13, heap.cellsWith(8));
        answers.due("19: cellsWith(9) of a heap of nine", 1, heap.cellsWith(9));
    }

    private static void theFirstThatCanBeJoined() {
        TitheGrid grid = Villages.make();
        answers.due("20: joinable()", -9, grid.joinable());
        grid.setCrowd(4);
        answers.due("20: joinable() with the crowd 4", 0, grid.joinable());
        answers.due("20: count(2) behind joinable", 7, grid.count(2));
        answers.due("8: join(6)", 0, grid.join(6));
        answers.due("20: joinable() behind join", -9, grid.joinable());
        grid.setCrowd(5);
        answers.due("20: joinable() with the crowd 5", 0, grid.joinable());
        answers.due("8: join(3)", 0, grid.join(3));
        answers.due("20: joinable() of the whole map", -9, grid.joinable());
        TitheGrid two = new TitheGrid();
        two.setCrowd(2);
        int[] columns = {0, 16, 31, 32, 48, 63};
        for (int point = 0; point < columns.length; point++) {
            two.add(columns[point], 0, 1);
        }
        answers.due("20: joinable() with two crowded halves", -9, two.joinable());
        two.remove(5);
        answers.due("20: joinable() with the greater parish's half free", 1, two.joinable());
        two.remove(0);
        answers.due("20: joinable() with both halves free", 0, two.joinable());
    }

    private static void nothingWasChanged() {
        TitheGrid grid = Villages.make();
        grid.range(0, 0, 63, 63, 3);
        grid.nearest(0, 0);
        grid.inOrder(0);
        grid.payable(4);
        grid.cellsWith(9);
        grid.joinable();
        answers.due("undo()", 4, grid.undo());
        answers.due("count(2) behind the undo of the last add", 4, grid.count(2));
    }
}
