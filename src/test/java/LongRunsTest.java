/** Long runs of calls, compared with PlainMap; the calls come from a fixed row of numbers, so a run is always the same. */
public final class LongRunsTest {
    private static final int RUNS = 400;
    private static final int CALLS = 512;
    private static final int[] STRANGE = {
        -1, Integer.MIN_VALUE, Integer.MAX_VALUE, 40, 64, 101, -9, Integer.MIN_VALUE + 1, 10, 1 << 16
    };
    private static final Answers answers = new Answers();
    private static int run;
    private static long seed;
    private static TitheGrid grid;
    private static PlainMap plain;

    public static void main(String[] args) {
        for (run = 0; run < RUNS && answers.wrong() < 10; run++) {
            begin();
            for (int call = 0; call < CALLS; call++) {
                if (number(100) < 55) {
                    act();
                } else {
                    look();
                }
            }
            if (run % 7 == 0) {
                lookAtAll(10 + run % 100);
            }
        }
        answers.end();
    }

    private static void begin() {
        seed = 1000003L * run + 17;
        grid = new TitheGrid();
        plain = new PlainMap();
    }

    private static void actAnew(int actions) {
        begin();
        for (int action = 0; action < actions; action++) {
            act();
        }
    }

    private static void lookAtAll(int actions) {
        int[] got = Question.answers(() -> {
            actAnew(actions);
            return Looking.into(grid);
        });
        int[] want = Question.answers(() -> {
            actAnew(actions);
            return plain;
        });
        for (int index = 0; index < want.length; index++) {
            due("behind " + actions + " actions, " + Question.ALL.get(index).call(), want[index], got[index]);
        }
    }

    private static int number(int bound) {
        seed = seed * 6364136223846793005L + 1442695040888963407L;
        return (int) ((seed >>> 33) % bound);
    }

    /** Once in thirty calls a number that is out of every range, or at an edge. */
    private static int orStrange(int usual) {
        return number(30) == 0 ? STRANGE[number(STRANGE.length)] : usual;
    }

    /** The runs differ in how close together their points lie. */
    private static int place() {
        int spread = new int[] {64, 8, 24, 4}[run % 4];
        int heap = number(3) * 21;
        return orStrange(number(5) == 0 ? number(64) : Math.min(63, heap + number(spread)));
    }

    private static int aPoint() {
        return orStrange(number(Math.max(1, Math.min(41, plain.count(1) + 1))));
    }

    private static int aParish() {
        return orStrange(number(Math.max(1, Math.min(41, plain.count(3) + 1))));
    }

    private static void due(String call, int want, int got) {
        answers.due("run " + run + ": " + call, want, got);
    }

    private static void act() {
        int chance = number(100);
        if (chance < 32) {
            int x = place();
            int y = place();
            int wealth = orStrange(1 + number(run % 3 == 0 ? 4 : 100));
            due("add(" + x + ", " + y + ", " + wealth + ")", plain.add(x, y, wealth), grid.add(x, y, wealth));
        } else if (chance < 48) {
            int point = aPoint();
            int x = place();
            int y = place();
            due("move(" + point + ", " + x + ", " + y + ")", plain.move(point, x, y), grid.move(point, x, y));
        } else if (chance < 56) {
            int point = aPoint();
            due("remove(" + point + ")", plain.remove(point), grid.remove(point));
        } else if (chance < 61) {
            int crowd = orStrange(2 + number(8));
            due("setCrowd(" + crowd + ")", plain.setCrowd(crowd), grid.setCrowd(crowd));
        } else if (chance < 65) {
            int tithe = orStrange(1 + number(9));
            due("setTithe(" + tithe + ")", plain.setTithe(tithe), grid.setTithe(tithe));
        } else if (chance < 78) {
            int parish = aParish();
            due("pay(" + parish + ")", plain.pay(parish), grid.pay(parish));
        } else if (chance < 92) {
            int first = plain.joinable();
            int parish = first >= 0 && number(2) == 0 ? first : aParish();
            due("join(" + parish + ")", plain.join(parish), grid.join(parish));
        } else {
            due("undo()", plain.undo(), grid.undo());
        }
    }

    private static void look() {
        int a = number(2) == 0 ? place() : aParish();
        int b = number(2) == 0 ? place() : aPoint();
        int what = orStrange(number(12));
        switch (number(11)) {
            case 0 -> due("count(" + what + ")", plain.count(what), grid.count(what));
            case 1 -> due("point(" + b + ", " + what + ")", plain.point(b, what), grid.point(b, what));
            case 2 -> due("parish(" + a + ", " + what + ")", plain.parish(a, what), grid.parish(a, what));
            case 3 -> due("debt(" + a + ", " + b + ")", plain.debt(a, b), grid.debt(a, b));
            case 4 -> due("at(" + a + ", " + b + ")", plain.at(a, b), grid.at(a, b));
            case 5 -> {
                int toX = number(2) == 0 ? place() : 63;
                int toY = number(2) == 0 ? place() : 63;
                int which = orStrange(number(5));
                due("range(" + a + ", " + b + ", " + toX + ", " + toY + ", " + which + ")",
                    plain.range(a, b, toX, toY, which), grid.range(a, b, toX, toY, which));
            }
            case 6 -> due("nearest(" + a + ", " + b + ")", plain.nearest(a, b), grid.nearest(a, b));
            case 7 -> due("inOrder(" + a + ")", plain.inOrder(a), grid.inOrder(a));
            case 8 -> due("payable(" + a + ")", plain.payable(a), grid.payable(a));
            case 9 -> due("cellsWith(" + what + ")", plain.cellsWith(what), grid.cellsWith(what));
            default -> due("joinable()", plain.joinable(), grid.joinable());
        }
    }
}
