import java.util.ArrayList;
import java.util.List;

/** What the tests share: answers that are due, and all that an object tells of itself. */
final class Check {
    private int wrong = 0;
    private int asked = 0;

    void due(String call, int got, int want) {
        asked++;
        if (got != want) {
            wrong++;
            System.out.println(call + " answered " + got + ", due is " + want);
        }
    }

    void due(String call, List<Integer> got, List<Integer> want) {
        asked++;
        if (!got.equals(want)) {
            wrong++;
            System.out.println(call + ": told " + got + ", due is " + want);
        }
    }

    void finish() {
        System.out.println(asked + " answers, " + wrong + " of them not as due");
        if (wrong != 0) {
            System.exit(1);
        }
    }

    /** All that can be asked without changing anything. */
    static List<Integer> told(DrainOffice x) {
        List<Integer> told = new ArrayList<>();
        for (int what = 0; what <= 6; what++) {
            told.add(x.many(what));
        }
        for (int what = 0; what <= 7; what++) {
            told.add(x.all(what));
        }
        for (int place = 0; place < x.many(0); place++) {
            for (int what = 0; what <= 5; what++) {
                told.add(x.at(place, what));
            }
        }
        for (int p = 0; p < x.many(1); p++) {
            for (int what = 0; what <= 11; what++) {
                told.add(x.of(p, what));
            }
            for (int k = 0; k < x.of(p, 1); k++) {
                told.add(x.step(p, k, 0));
                told.add(x.step(p, k, 1));
                told.add(x.step(p, k, 2));
            }
        }
        told.add(x.tree());
        for (int i = 0; x.pair(i) >= 0; i++) {
            told.add(x.pair(i));
        }
        for (int i = 0; x.dry(i) >= 0; i++) {
            told.add(x.dry(i));
        }
        return told;
    }

    /** What is told, and what comes to light only by going on: sight, trench, soils, ditches. */
    static List<Integer> probed(DrainOffice x) {
        List<Integer> told = told(x);
        told.add(x.where(1, 0));
        told.add(x.where(1, 1));
        told.add(x.pipe(1, 1, 0));
        told.add(x.step(x.many(1) - 1, 0, 0));
        told.add(x.step(x.many(1) - 1, 1, 1));
        told.add(x.hours(2));
        for (int place = 0; place < x.many(0); place++) {
            told.add(x.at(place, 2));
            told.add(x.at(place, 3));
        }
        told.add(x.back());
        told.add(x.many(0));
        told.add(x.many(1));
        told.add(x.many(2));
        return told;
    }
}
