import java.util.List;
import java.util.function.Supplier;
import java.util.function.ToIntFunction;

/** Each sentence of promises 27 and 28 that names a boundary case, with a test of its own. */
public final class KeptEdgesTest {
    private static final int NONE = DrainOffice.NONE;
    private static final Check check = new Check();

    public static void main(String[] args) {
        keepAnswersOne();
        keepChangesNothing();
        backOfNothingKept();
        backBringsEachThing();
        backBringsTheLatest();
        backLeavesWhatIsKept();
        backOfANewObject();
        backOfFullPipes();
        backToFewerPipes();
        backBringsTheTrenchOrNone();
        backGoesOnAsItWould();
        check.finish();
    }

    private static void keepAnswersOne() {
        check.sentence("Promise 27: All is kept: 1");
        DrainOffice x = new DrainOffice();
        check.due("of a new object", x.keep(), 1);
        check.due("again", x.keep(), 1);
        check.due("of a full one", Offices.full().keep(), 1);
        check.due("behind back", Twins.called(Offices::busy, DrainOffice::back).keep(), 1);
    }

    private static void keepChangesNothing() {
        check.sentence("Promise 27: All is kept (and stays as it is)");
        List<Supplier<DrainOffice>> makers = List.of(DrainOffice::new, Offices::drained, Offices::full);
        for (Supplier<DrainOffice> maker : makers) {
            check.due("told", Check.told(Twins.called(maker, DrainOffice::keep)), Check.told(maker.get()));
        }
        Twins.same(check, "keep() and back()", () -> keptAndBack(Offices::busy), () -> Twins.called(
                Offices::busy, DrainOffice::keep));
    }

    private static DrainOffice keptAndBack(Supplier<DrainOffice> maker) {
        DrainOffice x = maker.get();
        x.keep();
        x.back();
        return x;
    }

    private static void backOfNothingKept() {
        check.sentence("Promise 28: NONE: nothing is kept");
        DrainOffice x = new DrainOffice();
        check.due("at first", x.back(), NONE);
        x.land(6, 6);
        check.due("behind land", x.back(), NONE);
        check.due("which stays", x.many(0), 36);
        x.keep();
        check.due("behind keep", x.back(), 1);
        x.land(1, 1);
        check.due("behind keep and land", x.back(), 1);
        check.due("which was kept", x.many(0), 36);
    }

    /** One call of each kind that changes something; the busy office and its kept one both differ by it. */
    private static List<ToIntFunction<DrainOffice>> changes() {
        return List.of(x -> x.land(6, 6), x -> x.height(0, 1999), x -> x.soil(0, 3),
                x -> x.soils(0, 199, 99, 999, 39), x -> x.soils(1, 199, 99, 999, 39),
                x -> x.soils(2, 199, 99, 999, 39), x -> x.soils(3, 199, 99, 999, 39), x -> x.ditch(0, 14),
                x -> x.ditch(1, 14), x -> x.ditch(2, 14), x -> x.ditch(3, 14), x -> x.trench(1, 0, 400, 9),
                x -> x.pipe(2, 3, 77), x -> x.part(0), x -> x.open(2, 3), x -> x.block(0, true),
                x -> x.block(3, false), x -> x.rain(2, 299), x -> x.rain(-1, 1), x -> x.hours(1),
                x -> x.hours(50), x -> x.mark(1, true), x -> x.mark(0, false), x -> x.sight(3, false),
                x -> x.see());
    }

    private static void backBringsEachThing() {
        check.sentence("Promises 27 and 28: land, soils, ditches, pipes, water, RAIN, MARKED, THE SIGHT, the trench");
        List<ToIntFunction<DrainOffice>> changes = changes();
        for (int i = 0; i < changes.size(); i++) {
            ToIntFunction<DrainOffice> change = changes.get(i);
            Twins.same(check, "kept, change " + i + ", back", () -> keptChangedAndBack(change),
                    () -> Twins.called(Offices::busy, DrainOffice::keep));
        }
        ToIntFunction<DrainOffice> allOfThem = x -> {
            for (int i = changes.size() - 1; i >= 0; i--) {
                changes.get(i).applyAsInt(x);
            }
            return 0;
        };
        Twins.same(check, "kept, all changes, back", () -> keptChangedAndBack(allOfThem),
                () -> Twins.called(Offices::busy, DrainOffice::keep));
    }

    private static DrainOffice keptChangedAndBack(ToIntFunction<DrainOffice> change) {
        DrainOffice x = Offices.busy();
        x.keep();
        change.applyAsInt(x);
        check.due("back()", x.back(), 1);
        return x;
    }

    private static void backBringsTheLatest() {
        check.sentence("Promise 28: All is as it was kept latest");
        DrainOffice x = new DrainOffice();
        for (int n = 1; n <= 6; n++) {
            x.land(n, 1);
            x.keep();
        }
        x.land(6, 6);
        x.back();
        check.due("the latest", x.many(0), 6);
        x.land(1, 2);
        x.keep();
        x.land(1, 3);
        x.back();
        check.due("the latest of all", x.many(0), 2);
    }

    private static void backLeavesWhatIsKept() {
        check.sentence("Promise 28: (which stays)");
        DrainOffice x = Offices.drained();
        x.rain(0, 50);
        x.hours(3);
        x.keep();
        List<Integer> kept = Check.told(x);
        for (int times = 0; times < 4; times++) {
            check.due("hours(5)", x.hours(5), 30);
            x.block(0, true);
            x.height(0, times);
            x.mark(1, true);
            check.due("back()", x.back(), 1);
            check.due("as it was kept", Check.told(x), kept);
            check.due("back() again", x.back(), 1);
        }
    }

    private static void backOfANewObject() {
        check.sentence("Promises 1, 27 and 28: a new object is kept as it is");
        DrainOffice x = new DrainOffice();
        List<Integer> fresh = Check.told(x);
        x.keep();
        x.soils(0, 200, 100, 1000, 40);
        x.ditch(0, 2000);
        x.land(6, 6);
        x.trench(0, 1, 900, 1);
        x.pipe(0, 1, 0);
        x.rain(-1, 300);
        x.hours(50);
        x.mark(0, true);
        x.see();
        check.due("back()", x.back(), 1);
        check.due("as new", Check.told(x), fresh);
        check.due("HEIGHT 0", x.at(0, 0), 0);
        check.due("no trench", x.pipe(0, 1, 0), NONE);
        x.rain(0, 5);
        x.hours(1);
        check.due("SOIL 0 takes nothing", x.at(0, 2), 5);
    }

    private static void backOfFullPipes() {
        check.sentence("Promises 27 and 28: pipes (as many as may be, where as many others came since)");
        DrainOffice x = Offices.full();
        x.keep();
        x.land(6, 6);
        x.trench(35, 30, 500, 50);
        for (int p = 0; p < 20; p++) {
            x.pipe(1 + p % 2 * 2, 4, 0);
            x.join(p, 19);
        }
        check.due("back()", x.back(), 1);
        check.due("all of them", x.many(1), 20);
        for (int p = 0; p < 20; p++) {
            int[] of = {p % 4, 2, 1, 6, 80, 0, -1};
            for (int what = 0; what < of.length; what++) {
                check.due("of(" + p + ", " + what + ")", x.of(p, what), of[what]);
            }
            check.due("LIFE of " + p, x.of(p, 9), p % 4 == 2 ? 48 : 0);
            check.due("last PLACE of " + p, x.step(p, 1, 0), 1);
            check.due("last LEVEL of " + p, x.step(p, 1, 1), 899);
        }
        check.due("FULL", x.pipe(0, 1, 0), DrainOffice.FULL);
    }

    private static void backToFewerPipes() {
        check.sentence("Promises 27 and 28: pipes (those that came behind keep are no more)");
        DrainOffice x = Offices.drained();
        x.keep();
        x.rain(-1, 200);
        for (int p = 2; p < 20; p++) {
            x.pipe(2, 4, 9);
            x.block(p, p % 2 != 0);
        }
        x.hours(5);
        x.back();
        check.due("two", x.many(1), 2);
        check.due("none BLOCKED", x.many(6), 0);
        check.due("no PIPE 2", x.of(2, 0), DrainOffice.NUMBER);
        check.due("the next number", x.pipe(0, 1, 5), 2);
        int[] of = {0, 2, 1, 6, 80, 0, -1, 0, 0, 0, 0, 0};
        for (int what = 0; what < of.length; what++) {
            check.due("of(2, " + what + ")", x.of(2, what), of[what]);
        }
    }

    private static void backBringsTheTrenchOrNone() {
        check.sentence("Promise 27: the trench");
        DrainOffice x = Offices.land(2, 2);
        x.keep();
        x.trench(0, 1, 900, 1);
        x.back();
        check.due("there was none", x.pipe(0, 1, 0), NONE);
        x.trench(3, 1, 800, 7);
        x.keep();
        x.trench(0, 1, 900, 1);
        x.land(1, 1);
        x.back();
        check.due("there was one", x.pipe(1, 1, 0), 0);
        check.due("from there", x.step(0, 0, 0), 3);
        check.due("to there", x.step(0, 1, 0), 1);
        check.due("with that FALL", x.step(0, 1, 1), 793);
    }

    private static void backGoesOnAsItWould() {
        check.sentence("Promise 28: All is as it was (so all goes on as it would have)");
        DrainOffice x = Offices.busy();
        x.keep();
        int gone = x.hours(20);
        List<Integer> later = Check.told(x);
        x.back();
        check.due("hours(20)", x.hours(20), gone);
        check.due("behind them", Check.told(x), later);
    }
}
