import java.util.ArrayDeque;
import java.util.ArrayList;
import java.util.Deque;
import java.util.List;
import java.util.Map;
import java.util.TreeMap;

/** The document once more, by a tree of cells and by maps, to compare TitheGrid with in long runs. */
final class PlainMap implements Looking {
    private static final int WRONG = -1;
    private static final int STATE = -2;
    private static final int ROOM = -3;
    private static final int NONE = -9;

    private static final class Dot {
        int x;
        int y;
        int wealth;
        int lord;
    }

    private static final class Cell {
        int x;
        int y;
        int scale;
        int parish;
        Cell[] quarters;

        Cell(int x, int y, int scale, int parish) {
            this.x = x;
            this.y = y;
            this.scale = scale;
            this.parish = parish;
        }

        int side() {
            return 64 / (1 << scale);
        }

        boolean has(int px, int py) {
            return px / side() == x / side() && py / side() == y / side();
        }

        Cell quarter(int number, int newParish) {
            int half = side() / 2;
            return new Cell(x + (number % 2 == 1 ? half : 0), y + (number >= 2 ? half : 0), scale + 1, newParish);
        }
    }

    private static final class Situation {
        int crowd = 4;
        int tithe = 3;
        int founded = 1;
        Cell map = new Cell(0, 0, 0, 0);
        List<Dot> dots = new ArrayList<>();
        Map<Integer, Map<Integer, Integer>> debts = new TreeMap<>();

        Situation copy() {
            Situation other = new Situation();
            other.crowd = crowd;
            other.tithe = tithe;
            other.founded = founded;
            other.map = copyOf(map);
            for (Dot dot : dots) {
                other.dots.add(copyOf(dot));
            }
            for (Map.Entry<Integer, Map<Integer, Integer>> entry : debts.entrySet()) {
                other.debts.put(entry.getKey(), new TreeMap<>(entry.getValue()));
            }
            return other;
        }

        private static Cell copyOf(Cell cell) {
            Cell other = new Cell(cell.x, cell.y, cell.scale, cell.parish);
            if (cell.quarters != null) {
                other.quarters = new Cell[4];
                for (int number = 0; number < 4; number++) {
                    other.quarters[number] = copyOf(cell.quarters[number]);
                }
            }
            return other;
        }

        private static Dot copyOf(Dot dot) {
            if (dot == null) {
                return null;
            }
            Dot other = new Dot();
            other.x = dot.x;
            other.y = dot.y;
            other.wealth = dot.wealth;
            other.lord = dot.lord;
            return other;
        }
    }

    private Situation now = new Situation();
    private final Deque<Situation> past = new ArrayDeque<>();

    private void remember() {
        past.addLast(now.copy());
        if (past.size() > 5) {
            past.removeFirst();
        }
    }

    private List<Cell> leaves() {
        List<Cell> list = new ArrayList<>();
        collect(now.map, list);
        return list;
    }

    private static void collect(Cell cell, List<Cell> list) {
        if (cell.quarters == null) {
            list.add(cell);
            return;
        }
        for (Cell quarter : cell.quarters) {
            collect(quarter, list);
        }
    }

    private Cell leafOf(int parish) {
        for (Cell leaf : leaves()) {
            if (leaf.parish == parish) {
                return leaf;
            }
        }
        return null;
    }

    private Cell leafAt(int x, int y) {
        Cell cell = now.map;
        while (cell.quarters != null) {
            for (Cell quarter : cell.quarters) {
                if (quarter.has(x, y)) {
                    cell = quarter;
                    break;
                }
            }
        }
        return cell;
    }

    private Cell parentOf(Cell wanted, Cell cell) {
        if (cell.quarters == null) {
            return null;
        }
        for (Cell quarter : cell.quarters) {
            Cell parent = quarter == wanted ? cell : parentOf(wanted, quarter);
            if (parent != null) {
                return parent;
            }
        }
        return null;
    }

    private Dot dot(int number) {
        return number < 0 || number >= now.dots.size() ? null : now.dots.get(number);
    }

    private int dotsIn(Cell cell) {
        int sum = 0;
        for (Dot dot : now.dots) {
            sum += dot != null && cell.has(dot.x, dot.y) ? 1 : 0;
        }
        return sum;
    }

    private static boolean out(int number, int from, int to) {
        return number < from || number > to;
    }

    private void splitAll() {
        while (now.founded < 38) {
            Cell first = null;
            for (Cell leaf : leaves()) {
                boolean due = leaf.scale < 4 && dotsIn(leaf) > now.crowd;
                if (due && (first == null || leaf.parish < first.parish)) {
                    first = leaf;
                }
            }
            if (first == null) {
                return;
            }
            split(first);
        }
    }

    private void split(Cell cell) {
        int kept = 0;
        for (int number = 1; number < 4; number++) {
            if (dotsIn(cell.quarter(number, 0)) > dotsIn(cell.quarter(kept, 0))) {
                kept = number;
            }
        }
        cell.quarters = new Cell[4];
        for (int number = 0; number < 4; number++) {
            Cell quarter = cell.quarter(number, number == kept ? cell.parish : now.founded);
            cell.quarters[number] = quarter;
            if (number == kept) {
                continue;
            }
            now.founded++;
            int due = dotsIn(quarter) / now.tithe + (dotsIn(quarter) % now.tithe > 0 ? 1 : 0);
            if (due > 0) {
                owe(quarter.parish, cell.parish, due);
            }
            for (Dot dot : now.dots) {
                if (dot != null && dot.lord == cell.parish && quarter.has(dot.x, dot.y)) {
                    dot.lord = quarter.parish;
                }
            }
        }
    }

    private void owe(int debtor, int creditor, int amount) {
        Map<Integer, Integer> row = now.debts.computeIfAbsent(debtor, key -> new TreeMap<>());
        row.merge(creditor, amount, Integer::sum);
        if (row.get(creditor) == 0) {
            row.remove(creditor);
        }
    }

    int add(int x, int y, int wealth) {
        if (out(x, 0, 63) || out(y, 0, 63) || out(wealth, 1, 100)) {
            return WRONG;
        }
        if (now.dots.size() == 40) {
            return ROOM;
        }
        remember();
        Dot dot = new Dot();
        dot.x = x;
        dot.y = y;
        dot.wealth = wealth;
        dot.lord = leafAt(x, y).parish;
        now.dots.add(dot);
        splitAll();
        return now.dots.size() - 1;
    }

    int remove(int point) {
        if (dot(point) == null) {
            return WRONG;
        }
        remember();
        now.dots.set(point, null);
        splitAll();
        return count(0);
    }

    int move(int point, int x, int y) {
        Dot dot = dot(point);
        if (dot == null || out(x, 0, 63) || out(y, 0, 63)) {
            return WRONG;
        }
        remember();
        int before = dot.lord;
        if (leafAt(dot.x, dot.y).parish == dot.lord) {
            dot.lord = leafAt(x, y).parish;
        }
        dot.x = x;
        dot.y = y;
        int answer = dot.lord == before ? 0 : 1;
        splitAll();
        return answer;
    }

    int setCrowd(int crowd) {
        if (out(crowd, 2, 9)) {
            return WRONG;
        }
        remember();
        int before = now.crowd;
        now.crowd = crowd;
        splitAll();
        return before;
    }

    int setTithe(int tithe) {
        if (out(tithe, 1, 9)) {
            return WRONG;
        }
        remember();
        int before = now.tithe;
        now.tithe = tithe;
        splitAll();
        return before;
    }

    private int payNow(int parish) {
        Cell cell = leafOf(parish);
        int given = 0;
        while (now.debts.containsKey(parish) && !now.debts.get(parish).isEmpty()) {
            Dot poorest = null;
            for (Dot dot : now.dots) {
                boolean own = dot != null && dot.lord == parish && cell.has(dot.x, dot.y);
                if (own && (poorest == null || dot.wealth < poorest.wealth)) {
                    poorest = dot;
                }
            }
            if (poorest == null) {
                break;
            }
            int creditor = now.debts.get(parish).keySet().iterator().next();
            poorest.lord = creditor;
            owe(parish, creditor, -1);
            given++;
        }
        return given;
    }

    int pay(int parish) {
        if (leafOf(parish) == null) {
            return WRONG;
        }
        remember();
        int given = payNow(parish);
        splitAll();
        return given;
    }

    private Cell joinableAround(int parish) {
        Cell cell = leafOf(parish);
        Cell parent = cell == null ? null : parentOf(cell, now.map);
        if (parent == null || dotsIn(parent) > now.crowd) {
            return null;
        }
        for (Cell quarter : parent.quarters) {
            if (quarter.quarters != null) {
                return null;
            }
        }
        return parent;
    }

    int join(int parish) {
        if (leafOf(parish) == null) {
            return WRONG;
        }
        if (joinableAround(parish) == null) {
            return STATE;
        }
        remember();
        Cell parent = joinableAround(parish);
        List<Integer> four = new ArrayList<>();
        for (Cell quarter : parent.quarters) {
            four.add(quarter.parish);
        }
        int heir = four.stream().mapToInt(Integer::intValue).min().getAsInt();
        parent.quarters = null;
        parent.parish = heir;
        for (Dot dot : now.dots) {
            if (dot != null && four.contains(dot.lord)) {
                dot.lord = heir;
            }
        }
        Map<Integer, Map<Integer, Integer>> old = now.debts;
        now.debts = new TreeMap<>();
        for (Map.Entry<Integer, Map<Integer, Integer>> row : old.entrySet()) {
            for (Map.Entry<Integer, Integer> entry : row.getValue().entrySet()) {
                int debtor = four.contains(row.getKey()) ? heir : row.getKey();
                int creditor = four.contains(entry.getKey()) ? heir : entry.getKey();
                if (debtor != creditor) {
                    owe(debtor, creditor, entry.getValue());
                }
            }
        }
        splitAll();
        return heir;
    }

    int undo() {
        if (past.isEmpty()) {
            return STATE;
        }
        now = past.removeLast();
        return past.size();
    }

    @Override
    public int count(int what) {
        int there = 0;
        int elsewhere = 0;
        int wealth = 0;
        for (Dot dot : now.dots) {
            if (dot != null) {
                there++;
                elsewhere += leafAt(dot.x, dot.y).parish != dot.lord ? 1 : 0;
                wealth += dot.wealth;
            }
        }
        int owed = 0;
        for (Map<Integer, Integer> row : now.debts.values()) {
            for (int amount : row.values()) {
                owed += amount;
            }
        }
        int finest = 0;
        for (Cell leaf : leaves()) {
            finest = Math.max(finest, leaf.scale);
        }
        int[] answers = {there, now.dots.size(), leaves().size(), now.founded, now.crowd, now.tithe, owed, elsewhere,
            finest, wealth, past.size()};
        return out(what, 0, 10) ? WRONG : answers[what];
    }

    @Override
    public int point(int point, int what) {
        Dot dot = dot(point);
        if (dot == null || out(what, 0, 4)) {
            return WRONG;
        }
        return new int[] {dot.x, dot.y, dot.wealth, leafAt(dot.x, dot.y).parish, dot.lord}[what];
    }

    @Override
    public int parish(int parish, int what) {
        Cell cell = leafOf(parish);
        if (cell == null || out(what, 0, 7)) {
            return WRONG;
        }
        int under = 0;
        int wealth = 0;
        for (Dot dot : now.dots) {
            if (dot != null && dot.lord == parish) {
                under++;
                wealth += dot.wealth;
            }
        }
        int owes = 0;
        int gets = 0;
        for (Cell other : leaves()) {
            owes += debt(parish, other.parish);
            gets += debt(other.parish, parish);
        }
        return new int[] {cell.x, cell.y, cell.scale, dotsIn(cell), under, wealth, owes, gets}[what];
    }

    @Override
    public int debt(int parish, int creditor) {
        if (leafOf(parish) == null || leafOf(creditor) == null) {
            return WRONG;
        }
        Map<Integer, Integer> row = now.debts.get(parish);
        return row == null ? 0 : row.getOrDefault(creditor, 0);
    }

    @Override
    public int at(int x, int y) {
        return out(x, 0, 63) || out(y, 0, 63) ? WRONG : leafAt(x, y).parish;
    }

    @Override
    public int range(int x, int y, int toX, int toY, int what) {
        if (out(x, 0, 63) || out(y, 0, 63) || out(toX, x, 63) || out(toY, y, 63) || out(what, 0, 3)) {
            return WRONG;
        }
        int number = 0;
        int wealth = 0;
        int richest = NONE;
        for (int point = 0; point < now.dots.size(); point++) {
            Dot dot = now.dots.get(point);
            if (dot == null || out(dot.x, x, toX) || out(dot.y, y, toY)) {
                continue;
            }
            number++;
            wealth += dot.wealth;
            if (richest == NONE || dot.wealth > now.dots.get(richest).wealth) {
                richest = point;
            }
        }
        boolean[] seen = new boolean[40];
        int parishes = 0;
        for (int column = x; column <= toX; column++) {
            for (int row = y; row <= toY; row++) {
                int parish = leafAt(column, row).parish;
                parishes += seen[parish] ? 0 : 1;
                seen[parish] = true;
            }
        }
        return new int[] {number, wealth, parishes, richest}[what];
    }

    @Override
    public int nearest(int x, int y) {
        if (out(x, 0, 63) || out(y, 0, 63)) {
            return WRONG;
        }
        for (int far = 0; far <= 126; far++) {
            for (int point = 0; point < now.dots.size(); point++) {
                Dot dot = now.dots.get(point);
                if (dot != null && Math.abs(dot.x - x) + Math.abs(dot.y - y) == far) {
                    return point;
                }
            }
        }
        return NONE;
    }

    @Override
    public int inOrder(int index) {
        if (index < 0) {
            return WRONG;
        }
        return index < leaves().size() ? leaves().get(index).parish : NONE;
    }

    @Override
    public int payable(int parish) {
        if (leafOf(parish) == null) {
            return WRONG;
        }
        Situation kept = now;
        now = now.copy();
        int given = payNow(parish);
        now = kept;
        return given;
    }

    @Override
    public int cellsWith(int crowd) {
        return out(crowd, 2, 9) ? WRONG : divided(new Cell(0, 0, 0, 0), crowd);
    }

    private int divided(Cell cell, int crowd) {
        if (cell.scale == 4 || dotsIn(cell) <= crowd) {
            return 1;
        }
        int cells = 0;
        for (int number = 0; number < 4; number++) {
            cells += divided(cell.quarter(number, 0), crowd);
        }
        return cells;
    }

    @Override
    public int joinable() {
        for (int parish = 0; parish < 40; parish++) {
            if (joinableAround(parish) != null) {
                return parish;
            }
        }
        return NONE;
    }
}
