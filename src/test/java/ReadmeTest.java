import java.io.IOException;
import java.nio.file.Files;
import java.nio.file.Path;
import java.util.regex.Matcher;
import java.util.regex.Pattern;

/** The calls that README.md shows, in their order, with the answers that it tells. */
public final class ReadmeTest {
    private static final Pattern SHOWN =
        Pattern.compile("^grid\\.(\\w+\\([^)]*\\)); +// (TitheGrid\\.INVALID_ARGUMENT|\\d+)", Pattern.MULTILINE);
    private static final Answers answers = new Answers();
    private static Matcher lines;

    public static void main(String[] args) throws IOException {
        lines = SHOWN.matcher(Files.readString(Path.of("README.md")));
        TitheGrid grid = new TitheGrid();
        due("setCrowd(2)", grid.setCrowd(2));
        due("setTithe(2)", grid.setTithe(2));
        due("add(5, 5, 10)", grid.add(5, 5, 10));
        due("add(40, 5, 20)", grid.add(40, 5, 20));
        due("add(50, 6, 5)", grid.add(50, 6, 5));
        due("count(2)", grid.count(2));
        due("at(40, 5)", grid.at(40, 5));
        due("at(5, 5)", grid.at(5, 5));
        due("debt(1, 0)", grid.debt(1, 0));
        due("pay(1)", grid.pay(1));
        due("point(0, 4)", grid.point(0, 4));
        due("undo()", grid.undo());
        due("point(0, 4)", grid.point(0, 4));
        due("move(7, 0, 0)", grid.move(7, 0, 0));
        answers.dueTrue("README.md shows no more calls", !lines.find());
        answers.end();
    }

    private static void due(String call, int answer) {
        boolean isShown = lines.find() && lines.group(1).equals(call);
        answers.dueTrue("README.md shows " + call, isShown);
        if (isShown) {
            String told = lines.group(2);
            boolean isError = told.startsWith("TitheGrid");
            answers.due(call, isError ? TitheGrid.INVALID_ARGUMENT : Integer.parseInt(told), answer);
        }
    }
}
