import java.util.List;

/** Promises 27 and 28: keep, back. */
public final class KeptTest {
    private static final Check check = new Check();

    public static void main(String[] args) {
        backNeedsSomethingKept();
        backBringsAllAgain();
        backBringsHiddenThings();
        backBringsPipesOfAnOlderLand();
        backBringsWhatSoilsGive();
        keptStays();
        latestIsKept();
        keepChangesNothing();
        check.finish();
    }

    /** Something of everything: a mole into an outfall, water, rain, marks, sight, a trench. */
    private static DrainOffice busy() {
        DrainOffice x = new DrainOffice();
        x.land(2, 2);
        x.soils(1, 150, 60, 300, 1);
        x.soil(0, 1);
        x.soil(1, 1);
        x.height(3, 1200);
        x.ditch(2, 20);
        x.trench(0, 1, 900, 4);
        x.pipe(2, 1, 30);
        x.trench(1, 3, 800, 3);
        x.pipe(3, 2, 0);
        x.join(0, 1);
        x.open(1, 2);
        x.rain(-1, 120);
        x.rain(2, 5);
        x.hours(4);
        x.block(0, true);
        x.mark(0, true);
        x.mark(3, true);
        x.sight(1, true);
        x.trench(2, 0, 700, 9);
        return x;
    }

    private static void changeAll(DrainOffice x) {
        x.soils(1, 1, 1, 1, 40);
        x.soil(0, 3);
        x.height(3, 60);
        x.ditch(2, 2000);
        x.part(0);
        x.block(0, false);
        x.block(1, true);
        x.rain(-1, 1);
        x.hours(7);
        x.mark(0, false);
        x.mark(1, true);
        x.sight(1, false);
        x.sight(2, true);
        x.trench(0, 2, 100, 1);
        x.pipe(0, 1, 0);
    }

    private static void backNeedsSomethingKept() {
        DrainOffice x = busy();
        List<Integer> before = Check.told(x);
        check.due("back()", x.back(), DrainOffice.NONE);
        check.due("behind back() of nothing", Check.told(x), before);
    }

    private static void backBringsAllAgain() {
        DrainOffice x = busy();
        List<Integer> before = Check.told(x);
        check.due("keep()", x.keep(), 1);
        changeAll(x);
        check.due("back()", x.back(), 1);
        check.due("behind back()", Check.told(x), before);
        x.land(1, 1);
        check.due("back() behind land()", x.back(), 1);
        check.due("behind land() and back()", Check.told(x), before);
    }

    private static void backBringsHiddenThings() {
        Twins.same(check, "kept, changed and brought back", () -> broughtBack(), () -> Twins.called(
                KeptTest::busy, DrainOffice::keep));
        DrainOffice z = new DrainOffice();
        z.keep();
        z.land(1, 2);
        z.trench(0, 1, 900, 1);
        z.back();
        check.due("no trench was in hand", z.pipe(0, 1, 0), DrainOffice.NONE);
        check.due("HEIGHT 0 of the first land", z.at(0, 0), 0);
    }

    private static DrainOffice broughtBack() {
        DrainOffice x = busy();
        x.keep();
        changeAll(x);
        x.back();
        return x;
    }

    private static void backBringsPipesOfAnOlderLand() {
        DrainOffice x = busy();
        List<Integer> before = Check.told(x);
        x.keep();
        x.land(6, 6);
        x.trench(35, 5, 600, 20);
        x.pipe(1, 4, 0);
        x.pipe(0, 3, 0);
        x.pipe(1, 4, 0);
        x.join(2, 0);
        x.block(1, true);
        check.due("back()", x.back(), 1);
        check.due("pipes of the older land", Check.told(x), before);
    }

    private static void backBringsWhatSoilsGive() {
        DrainOffice x = new DrainOffice();
        x.land(1, 4);
        x.soils(0, 100, 50, 500, 1);
        x.trench(0, 1, 900, 1);
        x.pipe(0, 1, 0);
        x.rain(0, 60);
        x.keep();
        x.soils(0, 0, 0, 0, 40);
        x.back();
        check.due("reaches 1", x.at(2, 5), 1);
        check.due("no further", x.at(3, 5), 0);
        x.hours(1);
        check.due("gives 50 by 100", x.of(0, 8), 30);
        check.due("takes 100", x.at(0, 3), 30);
    }

    private static void keptStays() {
        DrainOffice x = new DrainOffice();
        x.land(1, 3);
        x.rain(0, 9);
        x.keep();
        for (int times = 0; times < 3; times++) {
            x.hours(2);
            x.height(0, 7);
            x.mark(1, true);
            check.due("many(2)", x.many(2), 2);
            check.due("back()", x.back(), 1);
            check.due("many(2)", x.many(2), 0);
            check.due("at(0, 0)", x.at(0, 0), 1000);
            check.due("at(0, 2)", x.at(0, 2), 0);
            check.due("many(4)", x.many(4), 0);
        }
    }

    private static void latestIsKept() {
        DrainOffice x = new DrainOffice();
        x.land(1, 3);
        x.keep();
        x.height(1, 5);
        x.keep();
        x.height(1, 6);
        x.back();
        check.due("at(1, 0)", x.at(1, 0), 5);
        DrainOffice y = busy();
        y.keep();
        y.land(1, 2);
        y.keep();
        y.trench(0, 1, 900, 1);
        y.pipe(2, 1, 9);
        y.back();
        check.due("no pipes were kept", y.many(1), 0);
        y.trench(0, 1, 900, 1);
        y.pipe(0, 1, 0);
        check.due("of(0, 9) of a new one", y.of(0, 9), 0);
        check.due("of(0, 8) of a new one", y.of(0, 8), 0);
        check.due("of(0, 7) of a new one", y.of(0, 7), 0);
        check.due("of(0, 11) of a new one", y.of(0, 11), 0);
    }

    private static void keepChangesNothing() {
        DrainOffice x = busy();
        List<Integer> before = Check.told(x);
        x.keep();
        check.due("behind keep()", Check.told(x), before);
    }
}
