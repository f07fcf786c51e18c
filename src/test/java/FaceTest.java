import java.io.IOException;
import java.nio.charset.StandardCharsets;
import java.nio.file.Files;
import java.nio.file.Path;
import java.util.ArrayList;
import java.util.List;
import java.util.regex.Matcher;
import java.util.regex.Pattern;

/** The program's face is the document's, in its order; so are the headings ahead of the calls, and the promises. */
public final class FaceTest {
    private static final Pattern FACE = Pattern.compile("(?s)## The public face\\s+```java\n(.*?)```");
    private static final Pattern HEADED = Pattern.compile("(?m)^Ahead of the calls (.*) the interface says: (----.*)\\.$");
    private static final Pattern PROMISED = Pattern.compile("(?m)^## Promise (\\d+): .*\n+`([^`]*)`: ");

    public static void main(String[] args) throws IOException {
        String document = Files.readString(Path.of("../shared/DOC.md"), StandardCharsets.UTF_8);
        String source = Files.readString(Path.of("src/main/java/TableRocks.java"), StandardCharsets.UTF_8);
        List<String> face = documentsFace(document);
        like("the face", sourcesFace(source), face);
        like("the calls with their headings", sourcesCalls(source), documentsCalls(document));
        like("the promises", promises(document), membersOf(face));
        Due.end("FaceTest");
    }

    private static void like(String what, List<String> got, List<String> want) {
        Due.is(what + ": lines", got.size(), want.size());
        Due.is(what + " has lines", want.isEmpty() ? 0 : 1, 1);
        for (int i = 0; i < Math.min(got.size(), want.size()); i++) {
            Due.is(what + ": " + got.get(i) + " for " + want.get(i), got.get(i).equals(want.get(i)) ? 1 : 0, 1);
        }
    }

    private static List<String> documentsFace(String document) {
        List<String> face = new ArrayList<>();
        Matcher block = FACE.matcher(document);
        if (block.find()) {
            for (String line : block.group(1).split("\n")) {
                if (line.trim().startsWith("public ")) {
                    face.add(line.trim().replaceAll("[ {;]+$", ""));
                }
            }
        }
        return face;
    }

    private static List<String> sourcesFace(String source) {
        List<String> face = new ArrayList<>();
        for (String line : source.split("\n")) {
            if (line.trim().startsWith("public ")) {
                face.add(line.trim().replaceAll("[ {;]+$", ""));
            }
        }
        return face;
    }

    /** A heading, then the names of the calls that it stands ahead of, and so on. */
    private static List<String> documentsCalls(String document) {
        List<String> calls = new ArrayList<>();
        Matcher headed = HEADED.matcher(document);
        while (headed.find()) {
            calls.add(headed.group(2));
            calls.addAll(List.of(headed.group(1).replace("`", "").split(", ")));
        }
        return calls;
    }

    private static List<String> sourcesCalls(String source) {
        List<String> calls = new ArrayList<>();
        boolean isShared = false;
        for (String line : source.split("\n")) {
            isShared |= line.trim().equals("// ---- what the calls above share");
            Matcher call = Pattern.compile("    public (?:int|long) (\\w+)\\(.*").matcher(line);
            if (call.matches()) {
                calls.add(call.group(1));
            } else if (line.trim().startsWith("// ----") && !isShared) {
                calls.add(line.trim().substring(3));
            }
        }
        return calls;
    }

    /** What each promise is of; they are numbered one by one. */
    private static List<String> promises(String document) {
        List<String> members = new ArrayList<>();
        Matcher promised = PROMISED.matcher(document);
        while (promised.find()) {
            members.add(promised.group(2));
            Due.is("Promise " + promised.group(1), Long.parseLong(promised.group(1)), members.size());
        }
        return members;
    }

    private static List<String> membersOf(List<String> face) {
        List<String> members = new ArrayList<>();
        for (String line : face) {
            if (line.endsWith(")")) {
                members.add(line.replaceFirst("public ", ""));
            }
        }
        return members;
    }
}
