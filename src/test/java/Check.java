import java.util.ArrayList;
import java.util.List;
import java.util.function.IntUnaryOperator;

/** What the tests share: answers that are due, and all that an object tells of itself. */
final class Check {
    private int wrong = 0;
    private int asked = 0;
    private String sentence = "";

    /** The sentence of the document that the answers from here on are due by. */
    void sentence(String words) {
        sentence = "[" + words + "] ";
    }

    void due(String call, int got, int want) {
        asked++;
        if (got != want) {
            wrong++;
            System.out.println(sentence + call + " answered " + got + ", due is " + want);
        }
    }

    void due(String call, List<Integer> got, List<Integer> want) {
        asked++;
        if (!got.equals(want)) {
            wrong++;
            System.out.println(sentence + call + ": told " + got + ", due is " + want);
        }
    }

    /** The last number that may be and the first that may not, at both ends, and the far ones. */
    void ends(String call, int least, int most, IntUnaryOperator answer, int accepted, int refused) {
        due(call + " with " + least, answer.applyAsInt(least), accepted);
        due(call + " with " + most, answer.applyAsInt(most), accepted);
        for (int n : new int[] {least - 1, most + 1, Integer.MIN_VALUE, Integer.MAX_VALUE}) {
            due(call + " with " + n, answer.applyAsInt(n), refused);
        }
    }

    void finish() {
        System.out.println(asked + " answers, " + wrong + " of them not as due");
        if (wrong != 0) {
            System.exit(1);
        }
    }

    /** All that can be asked without changing anything. */
    static List<Integer> told(DrainOffice x) {
        List<Integer> told = new ArrayList<>();
        for (int what = 0; what <= 6; what++) {
            told.add(x.many(what));
        }
        for (int what = 0; what <= 7; what++) {
            told.add(x.all(what));
        }
        int places = x.many(0);
        for (int place = 0; place < places; place++) {
            for (int what = 0; what <= 5; what++) {
                told.add(x.at(place, what));
            }
        }
        int pipes = x.many(1);
        for (int p = 0; p < pipes; p++) {
            tellPipe(x, p, told);
        }
        told.add(x.tree());
        int marked = x.many(4);
        for (int i = 0; i < marked; i++) {
            told.add(x.pair(i));
        }
        int unreached = x.many(3);
        for (int i = 0; i <= unreached; i++) {
            told.add(x.dry(i));
        }
        return told;
    }

    private static void tellPipe(DrainOffice x, int p, List<Integer> told) {
        for (int what = 0; what <= 11; what++) {
            told.add(x.of(p, what));
        }
        int steps = x.of(p, 1);
        for (int k = 0; k < steps; k++) {
            for (int what = 0; what <= 2; what++) {
                told.add(x.step(p, k, what));
            }
        }
    }
}
