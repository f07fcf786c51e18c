import java.io.IOException;
import java.lang.reflect.InvocationTargetException;
import java.lang.reflect.Method;
import java.nio.charset.StandardCharsets;
import java.nio.file.Files;
import java.nio.file.Path;
import java.util.Set;
import java.util.TreeSet;
import java.util.regex.Matcher;
import java.util.regex.Pattern;

/**
 * README.md is read as one run of calls: each line of its Java is called, and answers the number at the line's end;
 * each of its texts is fed. What it says of refusals is told by calls that are refused.
 */
public final class ReadmeTest {
    private static final Pattern BLOCK = Pattern.compile("(?s)```(java|text)\n(.*?)```");
    private static final Pattern CALL = Pattern.compile("x\\.(\\w+)\\(([^)]*)\\); +// (?:.* )?(-?\\d+)");
    private static final String MAKING = "TableRocks x = new TableRocks();";

    private TableRocks x = null;
    private int calls = 0;

    private ReadmeTest() {
    }

    public static void main(String[] args) throws IOException, ReflectiveOperationException {
        String page = Files.readString(Path.of("README.md"), StandardCharsets.UTF_8);
        new ReadmeTest().run(page);
        refusals(page);
        namesEveryTest(page);
        Due.end("ReadmeTest");
    }

    private void run(String page) throws ReflectiveOperationException {
        Matcher block = BLOCK.matcher(page);
        while (block.find()) {
            if (block.group(1).equals("text")) {
                Due.feed(x, block.group(2));
            } else {
                for (String line : block.group(2).split("\n")) {
                    line(line);
                }
            }
        }
        Due.is("README.md shows calls", calls > 0 ? 1 : 0, 1);
    }

    private void line(String line) throws ReflectiveOperationException {
        if (line.startsWith(MAKING)) {
            x = new TableRocks();
            return;
        }
        Matcher call = CALL.matcher(line);
        boolean isCall = call.matches();
        Due.is("README.md's line is a call with its answer: " + line, isCall ? 1 : 0, 1);
        if (isCall) {
            calls++;
            Due.is("README.md: " + line, answer(call.group(1), call.group(2)), Long.parseLong(call.group(3)));
        }
    }

    private long answer(String name, String told) throws ReflectiveOperationException {
        String[] texts = told.isEmpty() ? new String[0] : told.split(", *");
        Class<?>[] types = new Class<?>[texts.length];
        Object[] numbers = new Object[texts.length];
        for (int i = 0; i < texts.length; i++) {
            types[i] = int.class;
            numbers[i] = Integer.valueOf(texts[i]);
        }
        Method method = TableRocks.class.getMethod(name, types);
        try {
            return ((Number) method.invoke(x, numbers)).longValue();
        } catch (InvocationTargetException e) {
            throw new IllegalStateException("README.md shows a call that throws: " + name, e);
        }
    }

    /** The table of refusals: the answers' names with their numbers, and of each row the calls that it names. */
    private static void refusals(String page) {
        tells(page, "| `BAD` " + TableRocks.BAD + " |");
        tells(page, "| `STATE` " + TableRocks.STATE + " | not as it stands: firm already (`wedge`, `saw`),"
                + " no image yet (`back`)");
        tells(page, "| `FULL` " + TableRocks.FULL + " | no room: the tape has 160 bytes (`feed`), there are six texts"
                + " (`text`)");
        tells(page, "`NONE` " + TableRocks.NONE + " ");
        TableRocks x = new TableRocks();
        Due.is("wedge()", x.wedge(), TableRocks.STATE);
        Due.is("saw()", x.saw(), TableRocks.STATE);
        Due.is("back()", x.back(), TableRocks.STATE);
        isFull();
        tells(page, "| -11, -12, -13, -14 | of the host's calls: nothing there, a place outside, another sort or kind,"
                + " a size below 0 |");
        Due.is("cell(0, 0, 0)", x.cell(0, 0, 0), -11);
        Due.is("sheet(0, 0, 1)", x.sheet(0, 0, 1), 1);
        Due.is("cell(0, 1, 0)", x.cell(0, 1, 0), -12);
        Due.is("taken(0, 1)", x.taken(0, 1), -13);
        Due.is("sheet(0, 0, -1)", x.sheet(0, 0, -1), -14);
        tells(page, "| -100000 | where BAD could be an answer too: `stands`, `standsAt`, `best`, `blame` |");
        Due.is("stands(6)", x.stands(6), -100000);
        Due.is("standsAt(64, 0, 0)", x.standsAt(64, 0, 0), -100000);
        Due.is("best(3)", x.best(3), -100000);
        Due.is("blame(2)", x.blame(2), -100000);
        tells(page, "| `NO` | where a long is answered: `which`, `odds` |");
        Due.is("which(4)", x.which(4), TableRocks.NO);
        Due.is("odds(0, 0, 0)", x.odds(0, 0, 0), TableRocks.NO);
    }

    private static void isFull() {
        TableRocks x = new TableRocks();
        for (int i = 1; i <= 160; i++) {
            Due.is("feed(32)", x.feed(32), i);
        }
        Due.is("feed(32)", x.feed(32), TableRocks.FULL);
        Due.is("text()", x.text(), -260);
        for (int i = 1; i < 6; i++) {
            Due.is("text()", Due.text(x, "slack 0;worth 0;spills 0;"), i);
        }
        Due.is("text()", x.text(), TableRocks.FULL);
    }

    private static void tells(String page, String words) {
        Due.is("README.md tells: " + words, page.contains(words) ? 1 : 0, 1);
    }

    private static void namesEveryTest(String page) throws IOException {
        Set<String> named = new TreeSet<>();
        Matcher name = Pattern.compile("`(\\w+Test)`").matcher(page);
        while (name.find()) {
            named.add(name.group(1));
        }
        Set<String> here = new TreeSet<>();
        try (var files = Files.list(Path.of("src/test/java"))) {
            files.map(file -> file.getFileName().toString()).filter(file -> file.endsWith("Test.java"))
                    .forEach(file -> here.add(file.replace(".java", "")));
        }
        Due.is("README.md names " + named + ", here are " + here, named.equals(here) ? 1 : 0, 1);
    }
}
