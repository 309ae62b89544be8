import java.util.function.ToIntFunction;

/**
 * "A call that returns an error code changes nothing": each call is refused on several maps, and each map is seen as a
 * whole behind it, with all that undo brings back. The calls that only look change nothing either.
 */
public final class RefusedCallsTest {
    private static final int INVALID = -1;
    private static final int STATE = -2;
    private static final int FULL = -3;
    private static final int NONE = -9;
    private static final int MAX = Integer.MAX_VALUE;
    private static final Answers answers = new Answers();
    private static Scene scene;

    public static void main(String[] args) {
        scene = new Scene("new", TitheGrid::new);
        refuseArguments(0, 1);
        due("undo()", STATE, TitheGrid::undo);
        due("join(0)", STATE, grid -> grid.join(0));
        due("nearest(0, 0)", NONE, grid -> grid.nearest(0, 0));
        due("range(0, 0, 63, 63, 3)", NONE, grid -> grid.range(0, 0, 63, 63, 3));
        due("joinable()", NONE, TitheGrid::joinable);
        due("inOrder(1)", NONE, grid -> grid.inOrder(1));
        look();

        scene = new Scene("villages", Villages::make);
        refuseArguments(5, 7);
        refuseMoves();
        due("join(0), with too many points", STATE, grid -> grid.join(0));
        due("join(1), with a quarter that is split", STATE, grid -> grid.join(1));
        look();

        scene = new Scene("undone", RefusedCallsTest::allUndone);
        refuseArguments(2, 1);
        refuseMoves();
        due("undo()", STATE, TitheGrid::undo);
        look();

        scene = new Scene("forty points", Villages::fortyPoints);
        refuseArguments(40, 13);
        refuseMoves();
        due("add(0, 0, 1)", FULL, grid -> grid.add(0, 0, 1));
        due("add(63, 63, 100)", FULL, grid -> grid.add(63, 63, 100));
        due("join(12)", STATE, grid -> grid.join(12));
        due("joinable()", NONE, TitheGrid::joinable);
        look();

        scene = new Scene("forty parishes", Villages::fortyParishes);
        refuseArguments(18, 40);
        refuseMoves();
        due("join(1), with too many points", STATE, grid -> grid.join(1));
        look();

        scene = new Scene("joined again", Villages::joinedAgain);
        refuseArguments(3, 1);
        refuseArguments(4, 4);
        refuseMoves();
        due("join(0)", STATE, grid -> grid.join(0));
        look();
        answers.end();
    }

    /** Two points in the whole map, and no state in the history. */
    private static TitheGrid allUndone() {
        TitheGrid grid = new TitheGrid();
        grid.add(1, 2, 3);
        grid.add(4, 5, 6);
        for (int point = 2; point < 7; point++) {
            grid.add(63, 63, 1);
        }
        for (int undo = 0; undo < 5; undo++) {
            grid.undo();
        }
        return grid;
    }

    private static void due(String call, int want, ToIntFunction<TitheGrid> called) {
        scene.dueWithoutChange(answers, call, want, called);
    }

    private static void refuse(String call, ToIntFunction<TitheGrid> called) {
        due(call, INVALID, called);
    }

    /** From these numbers on there is no point and no parish. */
    private static void refuseArguments(int noPoint, int noParish) {
        refuse("add(-1, 5, 5)", grid -> grid.add(-1, 5, 5));
        refuse("add(64, 5, 5)", grid -> grid.add(64, 5, 5));
        refuse("add(5, -1, 5)", grid -> grid.add(5, -1, 5));
        refuse("add(5, 64, 5)", grid -> grid.add(5, 64, 5));
        refuse("add(5, 5, 0)", grid -> grid.add(5, 5, 0));
        refuse("add(5, 5, 101)", grid -> grid.add(5, 5, 101));
        refuse("setCrowd(1)", grid -> grid.setCrowd(1));
        refuse("setCrowd(10)", grid -> grid.setCrowd(10));
        refuse("setTithe(0)", grid -> grid.setTithe(0));
        refuse("setTithe(10)", grid -> grid.setTithe(10));
        refuse("count(-1)", grid -> grid.count(-1));
        refuse("count(11)", grid -> grid.count(11));
        refuse("at(64, 0)", grid -> grid.at(64, 0));
        refuse("at(0, -1)", grid -> grid.at(0, -1));
        refuse("range(1, 0, 0, 63, 0)", grid -> grid.range(1, 0, 0, 63, 0));
        refuse("range(0, 0, 63, 64, 3)", grid -> grid.range(0, 0, 63, 64, 3));
        refuse("range(0, 0, 63, 63, 4)", grid -> grid.range(0, 0, 63, 63, 4));
        refuse("nearest(-1, 0)", grid -> grid.nearest(-1, 0));
        refuse("nearest(0, 64)", grid -> grid.nearest(0, 64));
        refuse("inOrder(-1)", grid -> grid.inOrder(-1));
        refuse("cellsWith(1)", grid -> grid.cellsWith(1));
        refuse("cellsWith(10)", grid -> grid.cellsWith(10));
        for (int point : new int[] {-1, noPoint, 40, MAX}) {
            refuse("remove(" + point + ")", grid -> grid.remove(point));
            refuse("move(" + point + ", 5, 5)", grid -> grid.move(point, 5, 5));
            refuse("point(" + point + ", 0)", grid -> grid.point(point, 0));
        }
        for (int parish : new int[] {-1, noParish, 40, MAX}) {
            refuse("pay(" + parish + ")", grid -> grid.pay(parish));
            refuse("join(" + parish + ")", grid -> grid.join(parish));
            refuse("parish(" + parish + ", 0)", grid -> grid.parish(parish, 0));
            refuse("debt(" + parish + ", 0)", grid -> grid.debt(parish, 0));
            refuse("debt(0, " + parish + ")", grid -> grid.debt(0, parish));
            refuse("payable(" + parish + ")", grid -> grid.payable(parish));
        }
    }

    /** The point 0 is there, and is not moved off the map. */
    private static void refuseMoves() {
        refuse("move(0, -1, 5)", grid -> grid.move(0, -1, 5));
        refuse("move(0, 64, 5)", grid -> grid.move(0, 64, 5));
        refuse("move(0, 5, -1)", grid -> grid.move(0, 5, -1));
        refuse("move(0, 5, 64)", grid -> grid.move(0, 5, 64));
        refuse("point(0, -1)", grid -> grid.point(0, -1));
        refuse("point(0, 5)", grid -> grid.point(0, 5));
        refuse("parish(0, -1)", grid -> grid.parish(0, -1));
        refuse("parish(0, 8)", grid -> grid.parish(0, 8));
    }

    private static void look() {
        for (int what = 0; what <= 10; what++) {
            int asked = what;
            scene.dueUnchanged(answers, "count(" + what + ")", grid -> grid.count(asked));
            scene.dueUnchanged(answers, "point(0, " + what + ")", grid -> grid.point(0, asked));
            scene.dueUnchanged(answers, "parish(0, " + what + ")", grid -> grid.parish(0, asked));
            scene.dueUnchanged(answers, "payable(" + what + ")", grid -> grid.payable(asked));
            scene.dueUnchanged(answers, "cellsWith(" + what + ")", grid -> grid.cellsWith(asked));
            scene.dueUnchanged(answers, "debt(" + what + ", 0)", grid -> grid.debt(asked, 0));
            scene.dueUnchanged(answers, "inOrder(" + what + ")", grid -> grid.inOrder(asked));
        }
        for (int what = 0; what <= 3; what++) {
            int asked = what;
            scene.dueUnchanged(answers, "range(0, 0, 40, 63, " + what + ")", grid -> grid.range(0, 0, 40, 63, asked));
        }
        scene.dueUnchanged(answers, "at(63, 63)", grid -> grid.at(63, 63));
        scene.dueUnchanged(answers, "nearest(30, 30)", grid -> grid.nearest(30, 30));
        scene.dueUnchanged(answers, "joinable()", TitheGrid::joinable);
    }
}
