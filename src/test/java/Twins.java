import java.util.ArrayList;
import java.util.List;
import java.util.function.Function;
import java.util.function.Supplier;
import java.util.function.ToIntFunction;

/**
 * Looks whether two offices are alike, in what they tell and in what comes to light only by going
 * on; so whether a refused call changed nothing. Each part is asked of a new pair of twins, as
 * some parts change the office, and as an object has 512 calls.
 */
final class Twins {
    private static final List<Function<DrainOffice, List<Integer>>> PARTS =
            List.of(Check::told, Twins::goOn, Twins::groups, Twins::soils, Twins::reaches, Twins::ditches);

    private Twins() {
    }

    /** The call answers as is due, and nothing is changed by it, nor what is kept. */
    static void unchanged(Check check, Supplier<DrainOffice> maker, String name, int want,
            ToIntFunction<DrainOffice> call) {
        check.due(name, call.applyAsInt(maker.get()), want);
        same(check, "behind " + name, () -> called(maker, call), maker);
        same(check, "kept, behind " + name, () -> called(() -> called(maker, call), DrainOffice::back),
                () -> called(maker, DrainOffice::back));
    }

    /** Both makers make offices that answer alike, whatever they are asked. */
    static void same(Check check, String name, Supplier<DrainOffice> maker, Supplier<DrainOffice> twins) {
        for (int part = 0; part < PARTS.size(); part++) {
            check.due(name + ", part " + part, PARTS.get(part).apply(maker.get()),
                    PARTS.get(part).apply(twins.get()));
        }
    }

    static DrainOffice called(Supplier<DrainOffice> maker, ToIntFunction<DrainOffice> call) {
        DrainOffice x = maker.get();
        call.applyAsInt(x);
        return x;
    }

    /** What comes to light by going on: rain, blocked pipes, ways, lives, the trench in hand. */
    private static List<Integer> goOn(DrainOffice x) {
        List<Integer> told = new ArrayList<>();
        for (int k = 0; k < 4; k++) {
            told.add(x.where(1, k));
            told.add(x.where(3, k));
        }
        told.add(x.pipe(1, 1, 0));
        int last = x.many(1) - 1;
        for (int k = 0; k < 3; k++) {
            told.add(x.step(last, k, 0));
            told.add(x.step(last, k, 1));
        }
        told.add(x.hours(2));
        for (int place = 0; place < 4; place++) {
            told.add(x.at(place, 2));
            told.add(x.at(place, 3));
        }
        for (int p = 0; p <= last; p++) {
            told.add(x.of(p, 8));
            told.add(x.of(p, 9));
            told.add(x.of(p, 11));
        }
        told.add(x.back());
        told.add(x.many(2));
        return told;
    }

    /** Which PLACES are MARKED, and which are in THE SIGHT. */
    private static List<Integer> groups(DrainOffice x) {
        List<Integer> told = new ArrayList<>();
        for (int place = 0; place < 36; place++) {
            told.add(x.mark(place, true));
            told.add(x.sight(place, true));
        }
        return told;
    }

    /** What each SOIL takes, keeps and gives; soils stay as they are behind land(). */
    private static List<Integer> soils(DrainOffice x) {
        List<Integer> told = new ArrayList<>();
        x.land(1, 4);
        for (int soil = 0; soil < 4; soil++) {
            x.soil(soil, soil);
        }
        x.rain(-1, 200);
        tellWet(x, 1, told);
        tellWet(x, 20, told);
        x.trench(0, 3, 500, 1);
        x.pipe(0, 4, 0);
        tellWet(x, 1, told);
        return told;
    }

    private static void tellWet(DrainOffice x, int hours, List<Integer> told) {
        x.hours(hours);
        for (int place = 0; place < 4; place++) {
            told.add(x.at(place, 2));
            told.add(x.at(place, 3));
        }
    }

    /** How far each SOIL reaches: places whose squares off the lateral are 1, 2, 4, 5 and 8. */
    private static List<Integer> reaches(DrainOffice x) {
        List<Integer> told = new ArrayList<>();
        x.land(6, 6);
        x.trench(0, 1, 500, 1);
        x.pipe(0, 1, 0);
        for (int soil = 0; soil < 4; soil++) {
            for (int place : new int[] {6, 8, 12, 14, 15}) {
                x.soil(place, soil);
                told.add(x.at(place, 5));
            }
        }
        return told;
    }

    /** Which DITCHES shut the flaps of outfalls that end at the levels 8 to 14. */
    private static List<Integer> ditches(DrainOffice x) {
        List<Integer> told = new ArrayList<>();
        x.land(1, 2);
        x.soils(0, 200, 100, 1000, 0);
        x.rain(-1, 200);
        for (int i = 0; i < 7; i++) {
            x.trench(1, 0, 9 + i, 1);
            x.pipe(3, 1, 0);
            x.trench(0, 1, 100, 1);
            x.pipe(0, 1, 0);
            x.join(2 * i + 1, 2 * i);
        }
        x.hours(3);
        for (int ditch = 0; ditch < 4; ditch++) {
            for (int i = 0; i < 7; i++) {
                x.open(2 * i, ditch);
            }
            x.hours(1);
            for (int i = 0; i < 7; i++) {
                told.add(x.of(2 * i, 11));
            }
        }
        return told;
    }
}
