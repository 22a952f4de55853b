import java.lang.reflect.Constructor;
import java.lang.reflect.Field;
import java.lang.reflect.Member;
import java.lang.reflect.Method;
import java.lang.reflect.Modifier;
import java.util.Arrays;
import java.util.TreeSet;

/** The public face: the document's constants, constructor and methods, and nothing else. */
public final class FaceTest {
    private static final String[] FACE = {
        "BAD_ARG", "TAKEN", "FULL", "SUICIDE", "KO", "GoBoard()",
        "int play(int,int)", "int pass()", "int undo()", "int set(int,int)", "int at(int)",
        "int captured(int)", "int groupSize(int)", "int liberties(int)", "int trial(int,int)",
        "int moves(int)", "int groups(int)", "int inAtari(int)", "int score(int)",
        "int region(int)", "int done()",
    };

    public static void main(String[] args) {
        Expect expect = new Expect();
        expect.due("BAD_ARG", GoBoard.BAD_ARG, -1);
        expect.due("TAKEN", GoBoard.TAKEN, -2);
        expect.due("FULL", GoBoard.FULL, -3);
        expect.due("SUICIDE", GoBoard.SUICIDE, -5);
        expect.due("KO", GoBoard.KO, -6);

        int finalAndPublic = Modifier.PUBLIC | Modifier.FINAL;
        expect.due("the class's modifiers", GoBoard.class.getModifiers(), finalAndPublic);
        expect.due("nested classes", GoBoard.class.getDeclaredClasses().length, 0);

        TreeSet<String> seen = new TreeSet<>();
        for (Field field : GoBoard.class.getDeclaredFields()) {
            if (isVisible(expect, field)) {
                int constant = Modifier.PUBLIC | Modifier.STATIC | Modifier.FINAL;
                expect.due(field + " is a constant", field.getModifiers(), constant);
                seen.add(field.getName());
            }
        }
        for (Constructor<?> made : GoBoard.class.getDeclaredConstructors()) {
            if (isVisible(expect, made)) {
                seen.add("GoBoard" + parameters(made.getParameterTypes()));
            }
        }
        for (Method method : GoBoard.class.getDeclaredMethods()) {
            if (isVisible(expect, method)) {
                String types = parameters(method.getParameterTypes());
                seen.add(method.getReturnType() + " " + method.getName() + types);
                expect.due(method + " throws", method.getExceptionTypes().length, 0);
            }
        }
        TreeSet<String> wanted = new TreeSet<>(Arrays.asList(FACE));
        expect.due("face " + seen + " is " + wanted, seen.equals(wanted) ? 1 : 0, 1);
        expect.end();
    }

    private static boolean isVisible(Expect expect, Member member) {
        if (Modifier.isPrivate(member.getModifiers())) {
            return false;
        }
        expect.due(member + " is public", member.getModifiers() & Modifier.PUBLIC, Modifier.PUBLIC);
        return true;
    }

    private static String parameters(Class<?>[] types) {
        StringBuilder text = new StringBuilder("(");
        for (Class<?> type : types) {
            text.append(text.length() == 1 ? "" : ",").append(type);
        }
        return text.append(")").toString();
    }
}
