/** Maps for several tests, told here cell by cell; each takes less than a hundred calls. */
final class Villages {
    private Villages() {
    }

    /**
     * Crowd 3, tithe 2. The fourth point splits the map: 0 keeps the quarter 1, and 1, 2, 3 are founded; 1 pays
     * its point 0 to 0. The fifth one splits 0, which keeps the quarter 2 at (32, 16); 4, 5, 6 are founded, and
     * 4 and 5 owe a point each to 0. By the order of cells: 1, 4, 5, 0, 6, 2, 3.
     */
    static TitheGrid make() {
        TitheGrid grid = new TitheGrid();
        grid.setCrowd(3);
        grid.setTithe(2);
        grid.add(1, 1, 10);
        grid.add(40, 2, 20);
        grid.add(45, 30, 5);
        grid.add(33, 20, 7);
        grid.pay(1);
        grid.add(60, 10, 100);
        return grid;
    }

    /** Crowd 3, tithe 1. Parishes 0 to 3 in the quarters 0 to 3, a point in each; 1, 2 and 3 owe a point each to 0. */
    static TitheGrid fourQuarters() {
        TitheGrid grid = new TitheGrid();
        grid.setCrowd(3);
        grid.setTithe(1);
        grid.add(1, 1, 9);
        grid.add(40, 2, 9);
        grid.add(2, 33, 9);
        grid.add(50, 50, 1);
        return grid;
    }

    /** Forty points at one place: from the fifth one on, 0 has the cell (60, 60), and twelve more are founded around. */
    static TitheGrid fortyPoints() {
        TitheGrid grid = new TitheGrid();
        for (int point = 0; point < 40; point++) {
            grid.add(63, 63, 100);
        }
        return grid;
    }

    /**
     * Crowd 2. Heaps of three points at (0, 0), (8, 8), (16, 16), (16, 0) and (63, 63); 37 parishes are founded,
     * and 1 has the quarter (32, 0), 2 the quarter (0, 32), both of them empty.
     */
    static TitheGrid thirtySevenParishes() {
        TitheGrid grid = new TitheGrid();
        grid.setCrowd(2);
        int[] places = {0, 0, 8, 8, 16, 16, 16, 0, 63, 63};
        for (int heap = 0; heap < places.length; heap += 2) {
            for (int point = 0; point < 3; point++) {
                grid.add(places[heap], places[heap + 1], 1);
            }
        }
        return grid;
    }

    /** Three points more, at (63, 0), split the parish 1 once, and no further: 1 keeps (48, 0), crowded. */
    static TitheGrid fortyParishes() {
        TitheGrid grid = thirtySevenParishes();
        for (int point = 0; point < 3; point++) {
            grid.add(63, 0, 1);
        }
        return grid;
    }

    /** The quarters of fourQuarters are joined again, and 1, 2, 3 dissolved; the point 3 is removed. */
    static TitheGrid joinedAgain() {
        TitheGrid grid = fourQuarters();
        grid.pay(2);
        grid.remove(3);
        grid.join(1);
        return grid;
    }

    /** Crowd 6. The seventh point splits the map: 0 keeps the quarter 0 with four points, and 1 owes for three to 0. */
    static TitheGrid threeInTheSecond(int tithe, int wealth4, int wealth5, int wealth6) {
        TitheGrid grid = new TitheGrid();
        grid.setCrowd(6);
        grid.setTithe(tithe);
        for (int point = 0; point < 4; point++) {
            grid.add(point, 0, 50);
        }
        grid.add(40, 0, wealth4);
        grid.add(40, 10, wealth5);
        grid.add(40, 20, wealth6);
        return grid;
    }

    /**
     * Crowd 2, tithe 1. The parish 1 is founded in the quarter 1 and owes a point to 0; then it is split itself,
     * keeps (32, 0) with its points 2 and 4, and 4, 5, 6 are founded; 4, at (48, 0), owes its point 3 to 1.
     */
    static TitheGrid theSecondIsSplit() {
        TitheGrid grid = new TitheGrid();
        grid.setCrowd(2);
        grid.setTithe(1);
        grid.add(0, 0, 50);
        grid.add(1, 31, 50);
        grid.add(33, 0, 30);
        grid.add(60, 0, 20);
        grid.add(33, 1, 30);
        return grid;
    }
}
