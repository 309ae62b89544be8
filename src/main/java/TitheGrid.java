/**
 * A map divided into square parishes that split and join, with points that pay tithes.
 * The promises of every call stand in ../shared/DOC.md.
 */
public final class TitheGrid {
    public static final int INVALID_ARGUMENT = -1;
    public static final int ILLEGAL_STATE = -2;
    public static final int CAPACITY_EXCEEDED = -3;
    public static final int NONE = -9;

    private static final int SIDE = 64;
    private static final int SIDE_BITS = 6;
    private static final int FINEST_SCALE = 4;
    private static final int QUARTERS = 4;
    private static final int MOST_POINTS = 40;
    private static final int MOST_WEALTH = 100;
    private static final int MOST_PARISHES = 40;
    private static final int FOUNDED_THAT_END_SPLITS = 38;
    private static final int LEAST_CROWD = 2;
    private static final int MOST_CROWD = 9;
    private static final int FIRST_CROWD = 4;
    private static final int LEAST_TITHE = 1;
    private static final int MOST_TITHE = 9;
    private static final int FIRST_TITHE = 3;
    private static final int MOST_STATES = 5;

    private final State now;
    private final History history;

    public TitheGrid() {
        now = new State();
        history = new History();
    }

    // ---- points

    public int add(int x, int y, int wealth) {
        if (!isOnMap(x, y) || !isBetween(wealth, 1, MOST_WEALTH)) {
            return INVALID_ARGUMENT;
        }
        if (now.points.areFull()) {
            return CAPACITY_EXCEEDED;
        }
        history.keep(now);
        int point = now.addPoint(x, y, wealth);
        now.splitCrowded();
        return point;
    }

    public int remove(int point) {
        if (!now.points.exists(point)) {
            return INVALID_ARGUMENT;
        }
        history.keep(now);
        now.points.takeAway(point);
        now.splitCrowded();
        return now.points.number();
    }

    public int move(int point, int x, int y) {
        if (!now.points.exists(point) || !isOnMap(x, y)) {
            return INVALID_ARGUMENT;
        }
        history.keep(now);
        boolean changesLord = now.movePoint(point, x, y);
        now.splitCrowded();
        return changesLord ? 1 : 0;
    }

    // ---- parishes

    public int setCrowd(int crowd) {
        if (!isBetween(crowd, LEAST_CROWD, MOST_CROWD)) {
            return INVALID_ARGUMENT;
        }
        history.keep(now);
        int previous = now.crowd;
        now.crowd = crowd;
        now.splitCrowded();
        return previous;
    }

    public int setTithe(int tithe) {
        if (!isBetween(tithe, LEAST_TITHE, MOST_TITHE)) {
            return INVALID_ARGUMENT;
        }
        history.keep(now);
        int previous = now.tithe;
        now.tithe = tithe;
        now.splitCrowded();
        return previous;
    }

    public int pay(int parish) {
        if (!now.parishes.exists(parish)) {
            return INVALID_ARGUMENT;
        }
        history.keep(now);
        int given = now.payTithes(parish);
        now.splitCrowded();
        return given;
    }

    public int join(int parish) {
        if (!now.parishes.exists(parish)) {
            return INVALID_ARGUMENT;
        }
        if (!now.canJoin(parish)) {
            return ILLEGAL_STATE;
        }
        history.keep(now);
        int joined = now.joinQuarters(parish);
        now.splitCrowded();
        return joined;
    }

    public int undo() {
        if (history.isEmpty()) {
            return ILLEGAL_STATE;
        }
        history.restoreInto(now);
        return history.number();
    }

    // ---- looking

    public int count(int what) {
        switch (what) {
            case 0: return now.points.number();
            case 1: return now.points.numberAdded();
            case 2: return now.parishes.number();
            case 3: return now.parishes.numberFounded();
            case 4: return now.crowd;
            case 5: return now.tithe;
            case 6: return now.debts.sum();
            case 7: return now.pointsWithLordElsewhere();
            case 8: return now.parishes.greatestScale();
            case 9: return now.points.wealthIn(0, 0, SIDE - 1, SIDE - 1);
            case 10: return history.number();
            default: return INVALID_ARGUMENT;
        }
    }

    public int point(int point, int what) {
        if (!now.points.exists(point)) {
            return INVALID_ARGUMENT;
        }
        switch (what) {
            case 0: return now.points.xOf(point);
            case 1: return now.points.yOf(point);
            case 2: return now.points.wealthOf(point);
            case 3: return now.parishAround(point);
            case 4: return now.points.lordOf(point);
            default: return INVALID_ARGUMENT;
        }
    }

    public int parish(int parish, int what) {
        if (!now.parishes.exists(parish)) {
            return INVALID_ARGUMENT;
        }
        switch (what) {
            case 0: return now.parishes.leftOf(parish);
            case 1: return now.parishes.topOf(parish);
            case 2: return now.parishes.scaleOf(parish);
            case 3: return now.pointsIn(parish);
            case 4: return now.points.numberUnder(parish);
            case 5: return now.points.wealthUnder(parish);
            case 6: return now.debts.owedBy(parish);
            case 7: return now.debts.owedTo(parish);
            default: return INVALID_ARGUMENT;
        }
    }

    public int debt(int parish, int creditor) {
        if (!now.parishes.exists(parish) || !now.parishes.exists(creditor)) {
            return INVALID_ARGUMENT;
        }
        return now.debts.owed(parish, creditor);
    }

    public int at(int x, int y) {
        return isOnMap(x, y) ? now.parishes.parishAt(x, y) : INVALID_ARGUMENT;
    }

    // ---- ranges and what could be, which change nothing

    public int range(int x, int y, int toX, int toY, int what) {
        if (!isOnMap(x, y) || !isOnMap(toX, toY) || toX < x || toY < y) {
            return INVALID_ARGUMENT;
        }
        switch (what) {
            case 0: return now.points.numberIn(x, y, toX, toY);
            case 1: return now.points.wealthIn(x, y, toX, toY);
            case 2: return now.parishes.numberTouching(x, y, toX, toY);
            case 3: return now.points.richestIn(x, y, toX, toY);
            default: return INVALID_ARGUMENT;
        }
    }

    public int nearest(int x, int y) {
        return isOnMap(x, y) ? now.points.nearestTo(x, y) : INVALID_ARGUMENT;
    }

    public int inOrder(int index) {
        return index < 0 ? INVALID_ARGUMENT : now.parishes.withNumberBefore(index);
    }

    public int payable(int parish) {
        return now.parishes.exists(parish) ? now.payablePoints(parish) : INVALID_ARGUMENT;
    }

    public int cellsWith(int crowd) {
        if (!isBetween(crowd, LEAST_CROWD, MOST_CROWD)) {
            return INVALID_ARGUMENT;
        }
        return now.points.cellsIfDivided(crowd);
    }

    public int joinable() {
        for (int parish = 0; parish < MOST_PARISHES; parish++) {
            if (now.canJoin(parish)) {
                return parish;
            }
        }
        return NONE;
    }

    private static boolean isBetween(int number, int least, int most) {
        return number >= least && number <= most;
    }

    private static boolean isOnMap(int x, int y) {
        return isBetween(x, 0, SIDE - 1) && isBetween(y, 0, SIDE - 1);
    }

    private static int sideOf(int scale) {
        return scale >= 0 && scale <= FINEST_SCALE ? SIDE >> scale : 0;
    }

    /** The smallest x of a quarter, whose own side is given, of the cell that begins at left. */
    private static int quarterLeft(int left, int side, int quarter) {
        return left + (quarter & 1) * side;
    }

    private static int quarterTop(int top, int side, int quarter) {
        return top + (quarter >> 1) * side;
    }

    /** The points; one without wealth is not there: it was removed, or not added yet. */
    private static final class Points {
        private int added;
        private final int[] x = new int[MOST_POINTS];
        private final int[] y = new int[MOST_POINTS];
        private final int[] wealth = new int[MOST_POINTS];
        private final int[] lord = new int[MOST_POINTS];

        void copyFrom(Points other) {
            added = other.added;
            System.arraycopy(other.x, 0, x, 0, MOST_POINTS);
            System.arraycopy(other.y, 0, y, 0, MOST_POINTS);
            System.arraycopy(other.wealth, 0, wealth, 0, MOST_POINTS);
            System.arraycopy(other.lord, 0, lord, 0, MOST_POINTS);
        }

        boolean exists(int point) {
            return point >= 0 && point < MOST_POINTS && wealth[point] > 0;
        }

        boolean areFull() {
            return added >= MOST_POINTS;
        }

        int numberAdded() {
            return added;
        }

        int xOf(int point) {
            return exists(point) ? x[point] : NONE;
        }

        int yOf(int point) {
            return exists(point) ? y[point] : NONE;
        }

        int wealthOf(int point) {
            return exists(point) ? wealth[point] : 0;
        }

        int lordOf(int point) {
            return exists(point) ? lord[point] : NONE;
        }

        int place(int newX, int newY, int newWealth, int newLord) {
            int point = added;
            if (!isBetween(point, 0, MOST_POINTS - 1)) {
                return CAPACITY_EXCEEDED;
            }
            added++;
            x[point] = newX;
            y[point] = newY;
            wealth[point] = newWealth;
            lord[point] = newLord;
            return point;
        }

        void takeAway(int point) {
            if (exists(point)) {
                wealth[point] = 0;
            }
        }

        void shift(int point, int newX, int newY) {
            if (exists(point)) {
                x[point] = newX;
                y[point] = newY;
            }
        }

        void setLord(int point, int newLord) {
            if (exists(point)) {
                lord[point] = newLord;
            }
        }

        boolean liesIn(int point, int left, int top, int right, int bottom) {
            return exists(point) && isBetween(x[point], left, right) && isBetween(y[point], top, bottom);
        }

        int number() {
            return numberIn(0, 0, SIDE - 1, SIDE - 1);
        }

        int numberIn(int left, int top, int right, int bottom) {
            int number = 0;
            for (int point = 0; point < MOST_POINTS; point++) {
                if (liesIn(point, left, top, right, bottom)) {
                    number++;
                }
            }
            return number;
        }

        int wealthIn(int left, int top, int right, int bottom) {
            int sum = 0;
            for (int point = 0; point < MOST_POINTS; point++) {
                if (liesIn(point, left, top, right, bottom)) {
                    sum += wealth[point];
                }
            }
            return sum;
        }

        int richestIn(int left, int top, int right, int bottom) {
            int richest = NONE;
            for (int point = 0; point < MOST_POINTS; point++) {
                if (liesIn(point, left, top, right, bottom) && wealth[point] > wealthOf(richest)) {
                    richest = point;
                }
            }
            return richest;
        }

        int nearestTo(int toX, int toY) {
            int nearest = NONE;
            int least = 2 * SIDE;
            for (int point = 0; point < MOST_POINTS; point++) {
                int distance = Math.abs(x[point] - toX) + Math.abs(y[point] - toY);
                if (exists(point) && distance < least) {
                    nearest = point;
                    least = distance;
                }
            }
            return nearest;
        }

        int numberUnder(int parish) {
            int number = 0;
            for (int point = 0; point < MOST_POINTS; point++) {
                if (lordOf(point) == parish) {
                    number++;
                }
            }
            return number;
        }

        int wealthUnder(int parish) {
            int sum = 0;
            for (int point = 0; point < MOST_POINTS; point++) {
                if (lordOf(point) == parish) {
                    sum += wealth[point];
                }
            }
            return sum;
        }

        int poorestUnder(int parish, int left, int top, int right, int bottom) {
            int poorest = NONE;
            int least = MOST_WEALTH + 1;
            for (int point = 0; point < MOST_POINTS; point++) {
                boolean candidate = lordOf(point) == parish && liesIn(point, left, top, right, bottom);
                if (candidate && wealth[point] < least) {
                    poorest = point;
                    least = wealth[point];
                }
            }
            return poorest;
        }

        void changeLord(int from, int to, int left, int top, int right, int bottom) {
            for (int point = 0; point < MOST_POINTS; point++) {
                if (liesIn(point, left, top, right, bottom) && lord[point] == from) {
                    lord[point] = to;
                }
            }
        }

        /** Each cell that is split makes three more; what lies around a crowded cell is crowded too. */
        int cellsIfDivided(int crowd) {
            int cells = 1;
            for (int scale = 0; scale < FINEST_SCALE; scale++) {
                cells += (QUARTERS - 1) * crowdedCells(scale, crowd);
            }
            return cells;
        }

        private int crowdedCells(int scale, int crowd) {
            int side = sideOf(scale);
            int cells = 0;
            for (int row = 0; row < 1 << scale; row++) {
                for (int column = 0; column < 1 << scale; column++) {
                    int left = column * side;
                    int top = row * side;
                    if (numberIn(left, top, left + side - 1, top + side - 1) > crowd) {
                        cells++;
                    }
                }
            }
            return cells;
        }
    }

    /** The parishes and their cells; one without a cell is not there: it was dissolved, or not founded yet. */
    private static final class Parishes {
        private static final int WITHOUT_CELL = -1;
        private int founded;
        private final int[] left = new int[MOST_PARISHES];
        private final int[] top = new int[MOST_PARISHES];
        private final int[] scale = new int[MOST_PARISHES];

        Parishes() {
            for (int parish = 0; parish < MOST_PARISHES; parish++) {
                scale[parish] = WITHOUT_CELL;
            }
            found(0, 0, 0);
        }

        void copyFrom(Parishes other) {
            founded = other.founded;
            System.arraycopy(other.left, 0, left, 0, MOST_PARISHES);
            System.arraycopy(other.top, 0, top, 0, MOST_PARISHES);
            System.arraycopy(other.scale, 0, scale, 0, MOST_PARISHES);
        }

        boolean exists(int parish) {
            return parish >= 0 && parish < MOST_PARISHES && scale[parish] != WITHOUT_CELL;
        }

        int numberFounded() {
            return founded;
        }

        int number() {
            return numberTouching(0, 0, SIDE - 1, SIDE - 1);
        }

        int leftOf(int parish) {
            return exists(parish) ? left[parish] : NONE;
        }

        int topOf(int parish) {
            return exists(parish) ? top[parish] : NONE;
        }

        int rightOf(int parish) {
            return leftOf(parish) + sideOf(scaleOf(parish)) - 1;
        }

        int bottomOf(int parish) {
            return topOf(parish) + sideOf(scaleOf(parish)) - 1;
        }

        int scaleOf(int parish) {
            return exists(parish) ? scale[parish] : WITHOUT_CELL;
        }

        int found(int newLeft, int newTop, int newScale) {
            int parish = founded;
            if (!isBetween(parish, 0, MOST_PARISHES - 1)) {
                return NONE;
            }
            founded++;
            giveCell(parish, newLeft, newTop, newScale);
            return parish;
        }

        void giveCell(int parish, int newLeft, int newTop, int newScale) {
            if (isBetween(parish, 0, MOST_PARISHES - 1)) {
                left[parish] = newLeft;
                top[parish] = newTop;
                scale[parish] = newScale;
            }
        }

        void dissolve(int parish) {
            if (exists(parish)) {
                scale[parish] = WITHOUT_CELL;
            }
        }

        private boolean touches(int parish, int x, int y, int toX, int toY) {
            if (!exists(parish)) {
                return false;
            }
            int side = sideOf(scale[parish]);
            return left[parish] <= toX && left[parish] + side > x
                && top[parish] <= toY && top[parish] + side > y;
        }

        int parishAt(int x, int y) {
            for (int parish = 0; parish < MOST_PARISHES; parish++) {
                if (touches(parish, x, y, x, y)) {
                    return parish;
                }
            }
            return NONE;
        }

        int numberTouching(int x, int y, int toX, int toY) {
            int number = 0;
            for (int parish = 0; parish < MOST_PARISHES; parish++) {
                if (touches(parish, x, y, toX, toY)) {
                    number++;
                }
            }
            return number;
        }

        int greatestScale() {
            int greatest = 0;
            for (int parish = 0; parish < MOST_PARISHES; parish++) {
                greatest = Math.max(greatest, scaleOf(parish));
            }
            return greatest;
        }

        /** Follows the order of cells place by place: a cell is a run of as many places as it has. */
        int withNumberBefore(int number) {
            int place = 0;
            for (int before = 0; before < MOST_PARISHES && place < SIDE * SIDE; before++) {
                int parish = parishAt(everySecondBit(place), everySecondBit(place >> 1));
                if (before == number) {
                    return parish;
                }
                int side = sideOf(scaleOf(parish));
                place += side * side;
            }
            return NONE;
        }

        /** The places of the map in the order of cells are numbered by the bits of y and x by turns. */
        private static int everySecondBit(int place) {
            int bits = 0;
            for (int bit = 0; bit < SIDE_BITS; bit++) {
                bits |= (place >> 2 * bit & 1) << bit;
            }
            return bits;
        }
    }

    /** What each parish owes to each other one; a debt of 0 is none. */
    private static final class Debts {
        private final int[] amounts = new int[MOST_PARISHES * MOST_PARISHES];

        void copyFrom(Debts other) {
            System.arraycopy(other.amounts, 0, amounts, 0, MOST_PARISHES * MOST_PARISHES);
        }

        int owed(int debtor, int creditor) {
            return areParishes(debtor, creditor) ? amounts[debtor * MOST_PARISHES + creditor] : 0;
        }

        void change(int debtor, int creditor, int difference) {
            if (areParishes(debtor, creditor)) {
                amounts[debtor * MOST_PARISHES + creditor] += difference;
            }
        }

        private static boolean areParishes(int debtor, int creditor) {
            return debtor >= 0 && debtor < MOST_PARISHES && creditor >= 0 && creditor < MOST_PARISHES;
        }

        int owedBy(int parish) {
            int sum = 0;
            for (int creditor = 0; creditor < MOST_PARISHES; creditor++) {
                sum += owed(parish, creditor);
            }
            return sum;
        }

        int owedTo(int parish) {
            int sum = 0;
            for (int debtor = 0; debtor < MOST_PARISHES; debtor++) {
                sum += owed(debtor, parish);
            }
            return sum;
        }

        int sum() {
            int sum = 0;
            for (int debtor = 0; debtor < MOST_PARISHES; debtor++) {
                sum += owedBy(debtor);
            }
            return sum;
        }

        int firstCreditorOf(int parish) {
            for (int creditor = 0; creditor < MOST_PARISHES; creditor++) {
                if (owed(parish, creditor) > 0) {
                    return creditor;
                }
            }
            return NONE;
        }

        void passOn(int from, int to) {
            for (int creditor = 0; creditor < MOST_PARISHES; creditor++) {
                shift(from, creditor, to, creditor);
            }
            for (int debtor = 0; debtor < MOST_PARISHES; debtor++) {
                shift(debtor, from, debtor, to);
            }
            change(to, to, -owed(to, to));
        }

        private void shift(int debtor, int creditor, int newDebtor, int newCreditor) {
            int amount = owed(debtor, creditor);
            change(debtor, creditor, -amount);
            change(newDebtor, newCreditor, amount);
        }
    }

    /** Everything that undo restores. */
    private static final class State {
        private int crowd = FIRST_CROWD;
        private int tithe = FIRST_TITHE;
        private final Points points = new Points();
        private final Parishes parishes = new Parishes();
        private final Debts debts = new Debts();

        void copyFrom(State other) {
            crowd = other.crowd;
            tithe = other.tithe;
            points.copyFrom(other.points);
            parishes.copyFrom(other.parishes);
            debts.copyFrom(other.debts);
        }

        int addPoint(int x, int y, int wealth) {
            return points.place(x, y, wealth, parishes.parishAt(x, y));
        }

        boolean movePoint(int point, int x, int y) {
            int lord = points.lordOf(point);
            boolean paysWhereItLies = lord == parishAround(point);
            points.shift(point, x, y);
            if (paysWhereItLies) {
                points.setLord(point, parishAround(point));
            }
            return points.lordOf(point) != lord;
        }

        int parishAround(int point) {
            return parishes.parishAt(points.xOf(point), points.yOf(point));
        }

        int pointsIn(int parish) {
            return points.numberIn(parishes.leftOf(parish), parishes.topOf(parish),
                parishes.rightOf(parish), parishes.bottomOf(parish));
        }

        int pointsWithLordElsewhere() {
            int number = 0;
            for (int point = 0; point < MOST_POINTS; point++) {
                if (points.exists(point) && points.lordOf(point) != parishAround(point)) {
                    number++;
                }
            }
            return number;
        }

        void splitCrowded() {
            for (int split = 0; split < MOST_PARISHES; split++) {
                int parish = firstToSplit();
                if (parish == NONE) {
                    return;
                }
                splitCell(parish);
            }
        }

        private int firstToSplit() {
            if (parishes.numberFounded() >= FOUNDED_THAT_END_SPLITS) {
                return NONE;
            }
            for (int parish = 0; parish < MOST_PARISHES; parish++) {
                boolean divisible = parishes.exists(parish) && parishes.scaleOf(parish) < FINEST_SCALE;
                if (divisible && pointsIn(parish) > crowd) {
                    return parish;
                }
            }
            return NONE;
        }

        private void splitCell(int parish) {
            int left = parishes.leftOf(parish);
            int top = parishes.topOf(parish);
            int scale = parishes.scaleOf(parish) + 1;
            int side = sideOf(scale);
            int kept = fullestQuarter(left, top, side);
            for (int quarter = 0; quarter < QUARTERS; quarter++) {
                if (quarter != kept) {
                    foundIn(quarterLeft(left, side, quarter), quarterTop(top, side, quarter), scale, parish);
                }
            }
            parishes.giveCell(parish, quarterLeft(left, side, kept), quarterTop(top, side, kept), scale);
        }

        private int fullestQuarter(int left, int top, int side) {
            int fullest = 0;
            int most = -1;
            for (int quarter = 0; quarter < QUARTERS; quarter++) {
                int quarterX = quarterLeft(left, side, quarter);
                int quarterY = quarterTop(top, side, quarter);
                int number = points.numberIn(quarterX, quarterY, quarterX + side - 1, quarterY + side - 1);
                if (number > most) {
                    fullest = quarter;
                    most = number;
                }
            }
            return fullest;
        }

        private void foundIn(int left, int top, int scale, int parent) {
            int parish = parishes.found(left, top, scale);
            int right = parishes.rightOf(parish);
            int bottom = parishes.bottomOf(parish);
            debts.change(parish, parent, titheOf(points.numberIn(left, top, right, bottom)));
            points.changeLord(parent, parish, left, top, right, bottom);
        }

        private int titheOf(int number) {
            return tithe > 0 ? (number + tithe - 1) / tithe : 0;
        }

        int payTithes(int parish) {
            int given = 0;
            for (int turn = 0; turn < MOST_POINTS; turn++) {
                int creditor = debts.firstCreditorOf(parish);
                int point = points.poorestUnder(parish, parishes.leftOf(parish), parishes.topOf(parish),
                    parishes.rightOf(parish), parishes.bottomOf(parish));
                if (creditor == NONE || point == NONE) {
                    return given;
                }
                points.setLord(point, creditor);
                debts.change(parish, creditor, -1);
                given++;
            }
            return given;
        }

        int payablePoints(int parish) {
            int own = 0;
            for (int point = 0; point < MOST_POINTS; point++) {
                if (points.lordOf(point) == parish && parishAround(point) == parish) {
                    own++;
                }
            }
            return Math.min(own, debts.owedBy(parish));
        }

        boolean canJoin(int parish) {
            int scale = parishes.scaleOf(parish);
            if (scale < 1) {
                return false;
            }
            int left = leftAround(parish);
            int top = topAround(parish);
            int together = 0;
            for (int quarter = 0; quarter < QUARTERS; quarter++) {
                int sister = parishOfQuarter(left, top, scale, quarter);
                if (parishes.scaleOf(sister) != scale) {
                    return false;
                }
                together += pointsIn(sister);
            }
            return together <= crowd;
        }

        int joinQuarters(int parish) {
            int left = leftAround(parish);
            int top = topAround(parish);
            int scale = parishes.scaleOf(parish);
            int first = parish;
            for (int quarter = 0; quarter < QUARTERS; quarter++) {
                first = Math.min(first, parishOfQuarter(left, top, scale, quarter));
            }
            for (int quarter = 0; quarter < QUARTERS; quarter++) {
                absorb(parishOfQuarter(left, top, scale, quarter), first);
            }
            parishes.giveCell(first, left, top, scale - 1);
            return first;
        }

        private void absorb(int parish, int heir) {
            if (parish != heir) {
                points.changeLord(parish, heir, 0, 0, SIDE - 1, SIDE - 1);
                debts.passOn(parish, heir);
                parishes.dissolve(parish);
            }
        }

        /** If the quarter, of this scale, is split, the parish of its first cell. */
        private int parishOfQuarter(int left, int top, int scale, int quarter) {
            int side = sideOf(scale);
            return parishes.parishAt(quarterLeft(left, side, quarter), quarterTop(top, side, quarter));
        }

        /** The bit of the side tells in which half of the next greater cell a quarter lies. */
        private int leftAround(int parish) {
            return parishes.leftOf(parish) & ~sideOf(parishes.scaleOf(parish));
        }

        private int topAround(int parish) {
            return parishes.topOf(parish) & ~sideOf(parishes.scaleOf(parish));
        }
    }

    /**
     * The states before the latest actions, the latest first; the ones behind the number are spare. The constructor
     * leaves none of them null, and no call does: the tests for null stand there so that no use rests on that.
     */
    private static final class History {
        private int number;
        private final State[] states = new State[MOST_STATES];

        History() {
            for (int index = 0; index < MOST_STATES; index++) {
                states[index] = new State();
            }
        }

        boolean isEmpty() {
            return number == 0;
        }

        int number() {
            return number;
        }

        void keep(State state) {
            State reused = states[MOST_STATES - 1];
            if (reused == null) {
                return;
            }
            for (int index = MOST_STATES - 1; index > 0; index--) {
                states[index] = states[index - 1];
            }
            states[0] = reused;
            reused.copyFrom(state);
            number = Math.min(number + 1, MOST_STATES);
        }

        void restoreInto(State state) {
            State latest = states[0];
            if (latest == null) {
                return;
            }
            for (int index = 0; index < MOST_STATES - 1; index++) {
                states[index] = states[index + 1];
            }
            states[MOST_STATES - 1] = latest;
            state.copyFrom(latest);
            number = Math.max(number - 1, 0);
        }
    }
}
