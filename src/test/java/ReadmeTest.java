import java.io.IOException;
import java.nio.file.Files;
import java.nio.file.Path;
import java.util.ArrayList;
import java.util.List;
import java.util.regex.Matcher;
import java.util.regex.Pattern;

/** README.md: its example, call by call, and that it names each call and each error code. */
final class ReadmeTest {
    private ReadmeTest() {
    }

    public static void main(String[] args) throws IOException {
        String text = Files.readString(Path.of("README.md"));
        example(text);
        names(text);
        Check.end("ReadmeTest");
    }

    /** Each answer is told behind its call; the calls are those of the text, in its order. */
    private static void example(String text) {
        KiteStrings sky = new KiteStrings();
        int[] answers = {
            sky.launch(10, 50, 40, 3, 40), sky.launch(50, 10, 40, 2, 60), sky.crossing(0, 1, 0), sky.firstCut(0), sky.pass(5),
            sky.wear(0, 16), sky.order(1, 2, -3), sky.ifPassed(10, 0), sky.pass(4), sky.kite(0, 8), sky.kite(1, 7),
            sky.wear(0, 16), sky.undo(), sky.put(('0' << 16) + (':' << 8) + '+'), sky.fault(), sky.put(('1' << 8) + '0'),
            sky.carryOut(), sky.save(0)};
        String[] calls = {
            "launch(10, 50, 40, 3, 40)", "launch(50, 10, 40, 2, 60)", "crossing(mine, yours, 0)", "firstCut(0)", "pass(5)",
            "wear(mine, 16)", "order(yours, 2, -3)", "ifPassed(10, 0)", "pass(4)", "kite(mine, 8)", "kite(yours, 7)",
            "wear(mine, 16)", "undo()", "put(('0' << 16) + (':' << 8) + '+')", "fault()", "put(('1' << 8) + '0')",
            "carryOut()", "save(0)"};
        Matcher line = Pattern.compile("sky\\.(.*); +// (-?\\d+)").matcher(text);
        List<String> told = new ArrayList<>();
        List<String> due = new ArrayList<>();
        while (line.find()) {
            told.add(line.group(1) + " answers " + line.group(2));
        }
        for (int i = 0; i < calls.length; i++) {
            due.add(calls[i] + " answers " + answers[i]);
        }
        Check.same("the example of README.md", told.toString(), due.toString());
    }

    private static void names(String text) {
        String[] calls = {
            "launch(flyer, x, y, glass, strength)", "order(kite, dx, dy)", "step(kite, flyer)", "land(kite)", "pass(ticks)",
            "round()", "carryOut()", "kite(kite, what)", "wear(kite, place)", "crossing(kite, other, what)", "count(what)",
            "ifPassed(ticks, what)", "firstCut(what)", "meets(kite, other)", "bestOrder(kite, ticks, what)",
            "put(characters)", "wipe()", "fault()", "undo()", "save(slot)", "restore(slot)"};
        for (String call : calls) {
            Check.due("README.md tells of " + call, text.contains("\n| `" + call + "` |") ? 1 : 0, 1);
        }
        String[] codes = {"NO_SUCH", "BAD_VALUE", "BAD_TEXT", "TOO_MANY", "NOT_POSSIBLE", "NONE"};
        for (int i = 0; i < codes.length; i++) {
            String row = "\n| `" + codes[i] + "` | " + (-1 - i) + " |";
            Check.due("README.md tells of " + codes[i], text.contains(row) ? 1 : 0, 1);
        }
    }
}
