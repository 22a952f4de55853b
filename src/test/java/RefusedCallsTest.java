import java.util.ArrayList;
import java.util.List;

/**
 * "A refused call answers the code named and changes nothing": in every Position, each refused call
 * alone leaves the board, the prisoners and the count alone, and no later answer tells an object
 * with many refused calls from one without. The calls that only ask change nothing either.
 */
public final class RefusedCallsTest {
    private static final Expect EXPECT = new Expect();
    private static final List<Call> QUESTIONS = questions();

    public static void main(String[] args) {
        int refused = 0;
        for (Position position : Position.all()) {
            List<int[]> untouched = allAnswers(position, List.of());
            List<Call> inARow = new ArrayList<>();
            for (Call call : Call.atEdges()) {
                if (call.on(position.model()) < 0) {
                    refused++;
                    alone(position, call);
                    inARow.add(call);
                    if (inARow.size() == 40) {
                        together(position, inARow, untouched);
                        inARow.clear();
                    }
                } else if (call.asks()) {
                    alone(position, call);
                }
            }
            together(position, inARow, untouched);
        }
        EXPECT.says("this test");
        EXPECT.due(refused + " refused calls are many", refused > 10000 ? 1 : 0, 1);
        EXPECT.end();
    }

    private static void alone(Position position, Call call) {
        EXPECT.says("changes nothing: " + position.name() + ", then " + call);
        GoBoard board = position.board();
        EXPECT.changesNothing(call.toString(), board, call::on, call.on(position.model()));
    }

    private static void together(Position position, List<Call> refused, List<int[]> untouched) {
        EXPECT.says("changes nothing: " + position.name() + ", then " + refused);
        List<int[]> touched = allAnswers(position, refused);
        EXPECT.due("how many can be taken back", touched.size(), untouched.size());
        for (int back = 0; back < untouched.size(); back++) {
            for (int i = 0; i < QUESTIONS.size(); i++) {
                String question = QUESTIONS.get(i) + " after " + back + " undo";
                EXPECT.due(question, touched.get(back)[i], untouched.get(back)[i]);
            }
        }
    }

    /** What every question is answered with, after 0, 1, 2 .. undo until there is none left. */
    private static List<int[]> allAnswers(Position position, List<Call> first) {
        List<int[]> all = new ArrayList<>();
        int most = position.model().done();
        for (int back = 0; back <= most; back++) {
            // Each time a new object: one alone would be asked more than 512 times.
            GoBoard board = position.board();
            for (Call call : first) {
                call.on(board);
            }
            for (int i = 0; i < back; i++) {
                board.undo();
            }
            int[] answers = new int[QUESTIONS.size()];
            for (int i = 0; i < answers.length; i++) {
                answers[i] = QUESTIONS.get(i).on(board);
            }
            all.add(answers);
        }
        return all;
    }

    private static List<Call> questions() {
        List<Call> questions = new ArrayList<>();
        for (int q = 0; q < 49; q++) {
            questions.add(new Call("at", 0, q));
            questions.add(new Call("trial", 0, q));
            questions.add(new Call("trial", 1, q));
        }
        for (int p = 0; p <= 1; p++) {
            questions.add(new Call("captured", p, 0));
            questions.add(new Call("moves", p, 0));
            questions.add(new Call("groups", p, 0));
            questions.add(new Call("inAtari", p, 0));
            questions.add(new Call("score", p, 0));
        }
        questions.add(new Call("done", 0, 0));
        return questions;
    }
}
