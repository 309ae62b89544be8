/** What can be asked of a map without changing it. */
interface Looking {
    int count(int what);

    int point(int point, int what);

    int parish(int parish, int what);

    int debt(int parish, int creditor);

    int at(int x, int y);

    int range(int x, int y, int toX, int toY, int what);

    int nearest(int x, int y);

    int inOrder(int index);

    int payable(int parish);

    int cellsWith(int crowd);

    int joinable();

    static Looking into(TitheGrid grid) {
        return new Looking() {
            @Override
            public int count(int what) {
                return grid.count(what);
            }

            @Override
            public int point(int point, int what) {
                return grid.point(point, what);
            }

            @Override
            public int parish(int parish, int what) {
                return grid.parish(parish, what);
            }

            @Override
            public int debt(int parish, int creditor) {
                return grid.debt(parish, creditor);
            }

            @Override
            public int at(int x, int y) {
                return grid.at(x, y);
            }

            @Override
            public int range(int x, int y, int toX, int toY, int what) {
                return grid.range(x, y, toX, toY, what);
            }

            @Override
            public int nearest(int x, int y) {
                return grid.nearest(x, y);
            }

            @Override
            public int inOrder(int index) {
                return grid.inOrder(index);
            }

            @Override
            public int payable(int parish) {
                return grid.payable(parish);
            }

            @Override
            public int cellsWith(int crowd) {
                return grid.cellsWith(crowd);
            }

            @Override
            public int joinable() {
                return grid.joinable();
            }
        };
    }
}
