import java.util.function.Function;
import java.util.function.Supplier;

/** Counts and prints the answers that are not the ones that are due. */
final class Check {
    private static int wrong = 0;
    private static String sentence = "";

    private Check() {
    }

    /** Names the sentence of the document that the checks after this one are for. */
    static void of(String text) {
        sentence = text;
    }

    static void due(String call, Object got, Object want) {
        if (!got.equals(want)) {
            wrong++;
            System.out.println(sentence + ": " + call + " answered " + got + ", due is " + want);
        }
    }

    static void holds(String what, boolean holds) {
        if (!holds) {
            wrong++;
            System.out.println(sentence + ": does not hold: " + what);
        }
    }

    /** The call gives this answer, and the desk then answers as one that was never asked. */
    static void unchanged(String call, Supplier<Desk> made, Function<Desk, Object> asked, Object want) {
        Desk desk = made.get();
        due(call, asked.apply(desk), want);
        due("all there is to ask after " + call, desk.answers(), made.get().answers());
    }

    static boolean tooManyWrong() {
        return wrong >= 50;
    }

    static void end() {
        System.out.println(wrong == 0 ? "all answers are as due" : wrong + " answers are not as due");
        if (wrong != 0) {
            System.exit(1);
        }
    }
}
