import java.util.ArrayList;
import java.util.List;
import java.util.function.Supplier;
import java.util.function.ToIntFunction;

/** One of the questions that together tell all that can be seen of a map. */
record Question(String call, ToIntFunction<Looking> asked) {
    static final List<Question> ALL = all();

    /** An object is promised for 512 calls; the ones that made the map, and a few more, go ahead of these. */
    static final int ASKED_OF_ONE = 400;

    private static List<Question> all() {
        List<Question> list = new ArrayList<>();
        for (int what = 0; what <= 10; what++) {
            int asked = what;
            list.add(new Question("count(" + what + ")", map -> map.count(asked)));
        }
        for (int number = 0; number <= 40; number++) {
            addThoseOfANumber(list, number);
        }
        for (int x = 0; x < 64; x += 4) {
            for (int y = 0; y < 64; y += 4) {
                int column = x;
                int row = y;
                list.add(new Question("at(" + x + ", " + y + ")", map -> map.at(column, row)));
                list.add(new Question("nearest(" + x + ", " + y + ")", map -> map.nearest(column, row)));
            }
        }
        for (int what = 0; what <= 3; what++) {
            int asked = what;
            list.add(new Question("range(15, 15, 32, 32, " + what + ")", map -> map.range(15, 15, 32, 32, asked)));
        }
        for (int crowd = 2; crowd <= 9; crowd++) {
            int asked = crowd;
            list.add(new Question("cellsWith(" + crowd + ")", map -> map.cellsWith(asked)));
        }
        list.add(new Question("joinable()", Looking::joinable));
        return List.copyOf(list);
    }

    private static void addThoseOfANumber(List<Question> list, int number) {
        for (int what = 0; what <= 4; what++) {
            int asked = what;
            list.add(new Question("point(" + number + ", " + what + ")", map -> map.point(number, asked)));
        }
        for (int what = 0; what <= 7; what++) {
            int asked = what;
            list.add(new Question("parish(" + number + ", " + what + ")", map -> map.parish(number, asked)));
        }
        for (int creditor = 0; creditor <= 40; creditor++) {
            int asked = creditor;
            list.add(new Question("debt(" + number + ", " + creditor + ")", map -> map.debt(number, asked)));
        }
        list.add(new Question("inOrder(" + number + ")", map -> map.inOrder(number)));
        list.add(new Question("payable(" + number + ")", map -> map.payable(number)));
    }

    /** Makes as many maps alike as it takes to ask each of them few questions. */
    static int[] answers(Supplier<Looking> maker) {
        int[] answers = new int[ALL.size()];
        Looking map = null;
        for (int index = 0; index < answers.length; index++) {
            map = index % ASKED_OF_ONE == 0 ? maker.get() : map;
            answers[index] = ALL.get(index).asked().applyAsInt(map);
        }
        return answers;
    }
}
