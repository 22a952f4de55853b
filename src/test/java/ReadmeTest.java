import java.io.IOException;
import java.lang.reflect.Field;
import java.lang.reflect.Method;
import java.lang.reflect.Modifier;
import java.nio.file.Files;
import java.nio.file.Path;
import java.util.ArrayList;
import java.util.List;
import java.util.regex.Matcher;
import java.util.regex.Pattern;

/** README.md names the whole face, says what the document says, and its examples answer as told. */
public final class ReadmeTest {
    private static final Path README = Path.of("README.md");
    private static final String NEW_OBJECT = "GoBoard board = new GoBoard();";
    private static final Pattern EXAMPLE = Pattern.compile(
            "board\\.(\\w+)\\((?:(-?\\d+)(?:, (-?\\d+))?)?\\);\\s+// (?:GoBoard\\.(\\w+)|(-?\\d+))(?:: .+)?");

    /** The document's words that a user of the class is lost without. */
    private static final String[] SENTENCES = {
        "An object is used for at most 512 calls after it has been made; what later calls answer is free",
        "A refused call answers the code named and changes nothing",
        "No call ever throws",
        "Any player may move at any time",
        "puts a stone of p there, then takes all groups of the other player that have no liberty off"
            + " the board",
        "SUICIDE if the group of the new stone then has no liberty",
        "KO if the board then is the same as it was before the last move or pass that was done and"
            + " not taken back (if there is one)",
        "40 moves and passes were done",
        "The board is empty, nothing was done",
        "p not 0 or 1 or q not 0 to 48 answers BAD_ARG; a stone at q answers TAKEN; FULL; SUICIDE; KO."
            + " Otherwise the number of stones captured",
        "nothing changes on the board. FULL if 40 moves and passes were done. Otherwise the number"
            + " of moves and passes done",
        "the board and the captured stones are as before it. TAKEN if there is none. Otherwise the"
            + " number of moves and passes done that are left",
        "all moves and passes done so far can't be taken back any more, and count as not done",
        "p not 0 to 2 or q not 0 to 48 answers BAD_ARG; a stone there (for p = 2: none) answers"
            + " TAKEN. Otherwise 0",
        "A group without liberties may come to be; it stays until a move takes it off",
        "0 or 1 for a stone of this player, 2 for none; BAD_ARG if q is not 0 to 48",
        "How many stones player p has captured by moves that were not taken back (and since the"
            + " last set); BAD_ARG if p is not 0 or 1",
        "q not 0 to 48 answers BAD_ARG; no stone answers TAKEN",
        "refused as groupSize",
        "What play(p, q) would answer, if it were not for FULL; nothing is changed",
        "At how many points player p could move (not SUICIDE, not KO); BAD_ARG if p is not 0 or 1",
        "FULL does not matter there, as in trial",
        "How many groups of player p there are; BAD_ARG if p is not 0 or 1",
        "How many stones of player p are in groups with exactly one liberty; BAD_ARG if p is not 0"
            + " or 1",
        "The number of stones of player p plus the points of the regions that belong to p; BAD_ARG"
            + " if p is not 0 or 1",
        "q not 0 to 48 answers BAD_ARG; a stone at q answers TAKEN",
        "The number of moves and passes done that can be taken back",
    };

    private static final Expect EXPECT = new Expect();

    public static void main(String[] args) throws IOException, ReflectiveOperationException {
        List<String> lines = Files.readAllLines(README);
        saysWhatTheDocumentSays(lines);
        namesEveryMethod(lines);
        namesEveryConstant(lines);
        examplesAnswerAsTold(lines);
        tellsHowToRunTheTests(lines);
        namesEveryTest(lines);
        EXPECT.end();
    }

    private static void holds(String what, boolean held) {
        EXPECT.due(what, held ? 1 : 0, 1);
    }

    private static void saysWhatTheDocumentSays(List<String> lines) {
        EXPECT.says("README.md says of the class what the document says");
        // Where a line is broken, and what is set as code, is README.md's own affair.
        String text = String.join(" ", lines).replace("`", "").replaceAll("\\s+", " ");
        for (String sentence : SENTENCES) {
            holds("'" + sentence + "'", text.contains(sentence));
        }
    }

    private static void namesEveryMethod(List<String> lines) {
        EXPECT.says("README.md says how to use each kind of call");
        holds("making an object", lines.stream().anyMatch(line -> line.startsWith("- `GoBoard()`: ")));
        for (Method method : GoBoard.class.getDeclaredMethods()) {
            if (Modifier.isPublic(method.getModifiers())) {
                String start = "- `" + method.getName() + "(";
                holds(method.getName(), lines.stream().anyMatch(line -> line.startsWith(start)));
            }
        }
    }

    private static void namesEveryConstant(List<String> lines) throws ReflectiveOperationException {
        EXPECT.says("README.md says the codes that a refused call answers");
        for (Field field : GoBoard.class.getDeclaredFields()) {
            if (Modifier.isPublic(field.getModifiers())) {
                String start = "| `" + field.getName() + "` | " + field.getInt(null) + " | ";
                holds(field.getName(), lines.stream().anyMatch(line -> line.startsWith(start)));
            }
        }
    }

    private static void examplesAnswerAsTold(List<String> lines) throws ReflectiveOperationException {
        EXPECT.says("README.md's examples answer as told");
        List<String> examples = javaLines(lines);
        holds("there are examples", examples.size() > 1);
        holds("the first makes an object", examples.indexOf(NEW_OBJECT) == 0);
        GoBoard board = new GoBoard();
        for (String example : examples) {
            if (example.equals(NEW_OBJECT)) {
                board = new GoBoard();
            } else {
                answersAsTold(board, example);
            }
        }
    }

    private static List<String> javaLines(List<String> lines) {
        List<String> found = new ArrayList<>();
        boolean inside = false;
        for (String line : lines) {
            if (line.startsWith("```")) {
                inside = line.equals("```java");
            } else if (inside && !line.isBlank()) {
                found.add(line);
            }
        }
        return found;
    }

    private static void answersAsTold(GoBoard board, String example)
            throws ReflectiveOperationException {
        Matcher parts = EXAMPLE.matcher(example);
        if (!parts.matches()) {
            holds("the answer is told in the form that this test reads: " + example, false);
            return;
        }
        int first = parts.group(2) == null ? 0 : Integer.parseInt(parts.group(2));
        int second = parts.group(3) == null ? first : Integer.parseInt(parts.group(3));
        String code = parts.group(4);
        int told = code == null
                ? Integer.parseInt(parts.group(5)) : GoBoard.class.getField(code).getInt(null);
        EXPECT.due(example, new Call(parts.group(1), first, second).on(board), told);
    }

    private static void tellsHowToRunTheTests(List<String> lines) {
        EXPECT.says("README.md says how to run the tests");
        holds(".ci/run", lines.contains(".ci/run"));
    }

    private static void namesEveryTest(List<String> lines) throws IOException {
        EXPECT.says("README.md says what each file of the tests is for");
        String text = String.join(" ", lines);
        try (var files = Files.list(Path.of("src/test/java"))) {
            for (Path file : files.sorted().toList()) {
                String name = file.getFileName().toString().replace(".java", "");
                String family = name.replaceFirst("^Promise\\d\\d.*Test$", "PromiseNN...Test")
                        .replaceFirst("^Terms.*Test$", "Terms...Test");
                holds(family, text.contains("`" + family + "`"));
            }
        }
    }
}
