/** A map for several tests, told here cell by cell. */
final class Villages {
    private Villages() {
    }

    /**
     * Crowd 3, tithe 2. The fourth point splits the map: 0 keeps the quarter 1, and 1, 2, 3 are founded; 1 pays
     * its point 0 to 0. The fifth one splits 0, which keeps the quarter 2 at (32, 16); 4, 5, 6 are founded, and
     * 4 and 5 owe a point each to 0. By the order of cells: 1, 4, 5, 0, 6, 2, 3.
     */
    static TitheGrid make() {
        TitheGrid grid = new TitheGrid();
        grid.setCrowd(3);
        grid.setTithe(2);
        grid.add(1, 1, 10);
        grid.add(40, 2, 20);
        grid.add(45, 30, 5);
        grid.add(33, 20, 7);
        grid.pay(1);
        grid.add(60, 10, 100);
        return grid;
    }
}
