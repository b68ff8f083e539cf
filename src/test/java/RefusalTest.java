import java.util.List;
import java.util.function.ToIntFunction;

/** Each refusal that a call names; which one is answered; and that nothing changes by it. */
public final class RefusalTest {
    private static final int[] NO_PLACES = {-1, 4, -2, 36, Integer.MIN_VALUE, Integer.MAX_VALUE};
    private static final int[] NO_PIPES = {-1, 3, 20, 100, Integer.MIN_VALUE, Integer.MAX_VALUE};
    private static final int[] NO_FOURTH = {-1, 4, Integer.MIN_VALUE, Integer.MAX_VALUE};
    private static final int NUMBER = DrainOffice.NUMBER;
    private static final Check check = new Check();
    private static List<Integer> untouched;

    public static void main(String[] args) {
        untouched = Check.probed(office());
        ground();
        places();
        trenches();
        pipes();
        joins();
        numbersOfPipes();
        asked();
        tellingChangesNothing();
        check.finish();
    }

    /** Two by two places, lateral 0, main 1, outfall 2, water everywhere, and something kept. */
    private static DrainOffice office() {
        DrainOffice x = new DrainOffice();
        x.land(1, 3);
        x.keep();
        x.land(2, 2);
        x.soils(0, 100, 50, 300, 0);
        x.soils(3, 20, 50, 100, 1);
        x.soil(2, 3);
        x.ditch(1, 10);
        x.trench(0, 1, 900, 2);
        x.pipe(0, 1, 0);
        x.trench(1, 3, 800, 2);
        x.pipe(1, 1, 0);
        x.trench(3, 2, 700, 2);
        x.pipe(3, 1, 0);
        x.join(0, 1);
        x.join(1, 2);
        x.open(2, 1);
        x.rain(-1, 130);
        x.rain(3, 0);
        x.mark(0, true);
        x.mark(3, true);
        x.hours(3);
        x.see();
        x.trench(0, 2, 600, 4);
        return x;
    }

    private static void refused(String name, int want, ToIntFunction<DrainOffice> call) {
        DrainOffice x = office();
        check.due(name, call.applyAsInt(x), want);
        check.due("behind " + name, Check.probed(x), untouched);
    }

    private static void ground() {
        for (int side : new int[] {0, 7, -1, Integer.MIN_VALUE, Integer.MAX_VALUE}) {
            refused("land(" + side + ", 1)", NUMBER, x -> x.land(side, 1));
            refused("land(6, " + side + ")", NUMBER, x -> x.land(6, side));
        }
        for (int soil : NO_FOURTH) {
            refused("soil(0, " + soil + ")", NUMBER, x -> x.soil(0, soil));
            refused("soils(" + soil + ", ..)", NUMBER, x -> x.soils(soil, 1, 1, 1, 1));
            refused("ditch(" + soil + ", 5)", NUMBER, x -> x.ditch(soil, 5));
        }
        for (int below : new int[] {-1, Integer.MIN_VALUE}) {
            refused("takes " + below, NUMBER, x -> x.soils(0, below, 1, 1, 1));
            refused("gives " + below, NUMBER, x -> x.soils(0, 1, below, 1, 1));
            refused("keeps " + below, NUMBER, x -> x.soils(0, 1, 1, below, 1));
            refused("reaches " + below, NUMBER, x -> x.soils(0, 1, 1, 1, below));
        }
        refused("takes 201", NUMBER, x -> x.soils(0, 201, 1, 1, 1));
        refused("gives 101", NUMBER, x -> x.soils(0, 1, 101, 1, 1));
        refused("keeps 1001", NUMBER, x -> x.soils(0, 1, 1, 1001, 1));
        refused("reaches 41", NUMBER, x -> x.soils(0, 1, 1, 1, 41));
        for (int height : new int[] {-1, 2001, Integer.MIN_VALUE, Integer.MAX_VALUE}) {
            refused("height(0, " + height + ")", NUMBER, x -> x.height(0, height));
            refused("ditch(1, " + height + ")", NUMBER, x -> x.ditch(1, height));
        }
        for (int rain : new int[] {-1, 301, Integer.MIN_VALUE, Integer.MAX_VALUE}) {
            refused("rain(0, " + rain + ")", NUMBER, x -> x.rain(0, rain));
            refused("rain(-1, " + rain + ")", NUMBER, x -> x.rain(-1, rain));
        }
    }

    private static void places() {
        for (int place : NO_PLACES) {
            refused("height(" + place + ", 5)", NUMBER, x -> x.height(place, 5));
            refused("soil(" + place + ", 1)", NUMBER, x -> x.soil(place, 1));
            refused("mark(" + place + ", true)", NUMBER, x -> x.mark(place, true));
            refused("mark(" + place + ", false)", NUMBER, x -> x.mark(place, false));
            refused("sight(" + place + ", true)", NUMBER, x -> x.sight(place, true));
            refused("sight(" + place + ", false)", NUMBER, x -> x.sight(place, false));
            refused("at(" + place + ", 0)", NUMBER, x -> x.at(place, 0));
            if (place != -1) {
                refused("rain(" + place + ", 5)", NUMBER, x -> x.rain(place, 5));
            }
        }
    }

    private static void trenches() {
        for (int place : NO_PLACES) {
            refused("trench(" + place + ", 0, ..)", NUMBER, x -> x.trench(place, 0, 500, 5));
            refused("trench(0, " + place + ", ..)", NUMBER, x -> x.trench(0, place, 500, 5));
        }
        for (int place = 0; place < 4; place++) {
            int a = place;
            refused("trench to itself", NUMBER, x -> x.trench(a, a, 500, 5));
            refused("trench askew", NUMBER, x -> x.trench(a, 3 - a, 500, 5));
        }
        for (int level : new int[] {-1, 2001, Integer.MIN_VALUE, Integer.MAX_VALUE}) {
            refused("trench at " + level, NUMBER, x -> x.trench(0, 1, level, 5));
        }
        for (int fall : new int[] {0, -1, 51, Integer.MIN_VALUE, Integer.MAX_VALUE}) {
            refused("trench falling by " + fall, NUMBER, x -> x.trench(0, 1, 500, fall));
        }
    }

    private static void pipes() {
        for (int kind : NO_FOURTH) {
            refused("pipe(" + kind + ", 1, 1)", NUMBER, x -> x.pipe(kind, 1, 1));
        }
        for (int width : new int[] {0, 5, -1, Integer.MIN_VALUE, Integer.MAX_VALUE}) {
            refused("pipe(0, " + width + ", 1)", NUMBER, x -> x.pipe(0, width, 1));
        }
        for (int life : new int[] {0, 101, -1, Integer.MIN_VALUE, Integer.MAX_VALUE}) {
            refused("pipe(2, 1, " + life + ")", NUMBER, x -> x.pipe(2, 1, life));
        }
    }

    private static void joins() {
        for (int p : NO_PIPES) {
            refused("join(" + p + ", 0)", NUMBER, x -> x.join(p, 0));
            refused("join(0, " + p + ")", NUMBER, x -> x.join(0, p));
            refused("join(2, " + p + "): NUMBER ahead of KIND", NUMBER, x -> x.join(2, p));
        }
        refused("join(2, 1): an outfall", DrainOffice.KIND, x -> x.join(2, 1));
        refused("join(1, 0): no main", DrainOffice.KIND, x -> x.join(1, 0));
        refused("join(0, 2): no step of it", DrainOffice.KIND, x -> x.join(0, 2));
        refused("join(1, 1)", DrainOffice.RING, x -> x.join(1, 1));
        for (int ditch : NO_FOURTH) {
            refused("open(2, " + ditch + ")", NUMBER, x -> x.open(2, ditch));
            refused("open(1, " + ditch + "): NUMBER ahead of KIND", NUMBER, x -> x.open(1, ditch));
        }
        refused("open(0, 0)", DrainOffice.KIND, x -> x.open(0, 0));
        refused("open(1, 0)", DrainOffice.KIND, x -> x.open(1, 0));
    }

    private static void numbersOfPipes() {
        for (int p : NO_PIPES) {
            refused("open(" + p + ", 0)", NUMBER, x -> x.open(p, 0));
            refused("part(" + p + ")", NUMBER, x -> x.part(p));
            refused("block(" + p + ", true)", NUMBER, x -> x.block(p, true));
            refused("block(" + p + ", false)", NUMBER, x -> x.block(p, false));
            refused("of(" + p + ", 0)", NUMBER, x -> x.of(p, 0));
            refused("step(" + p + ", 0, 0)", -10000, x -> x.step(p, 0, 0));
        }
    }

    private static void asked() {
        int[] far = {-1, Integer.MIN_VALUE, Integer.MAX_VALUE};
        for (int what : far) {
            refused("of(0, " + what + ")", NUMBER, x -> x.of(0, what));
            refused("at(0, " + what + ")", NUMBER, x -> x.at(0, what));
            refused("all(" + what + ")", NUMBER, x -> x.all(what));
            refused("many(" + what + ")", NUMBER, x -> x.many(what));
            refused("step(0, 0, " + what + ")", -10000, x -> x.step(0, 0, what));
            refused("step(0, " + what + ", 0)", -10000, x -> x.step(0, what, 0));
            refused("dry(" + what + ")", DrainOffice.NONE, x -> x.dry(what));
            refused("pair(" + what + ")", DrainOffice.NONE, x -> x.pair(what));
        }
        for (int n : new int[] {0, 51, -1, Integer.MIN_VALUE, Integer.MAX_VALUE}) {
            refused("hours(" + n + ")", NUMBER, x -> x.hours(n));
        }
        for (int h : new int[] {0, 21, -1, Integer.MIN_VALUE, Integer.MAX_VALUE}) {
            refused("where(" + h + ", 0)", NUMBER, x -> x.where(h, 0));
        }
        refused("where(1, -1)", NUMBER, x -> x.where(1, -1));
        refused("where(1, least)", NUMBER, x -> x.where(1, Integer.MIN_VALUE));
        refused("where(20, most)", DrainOffice.NONE, x -> x.where(20, Integer.MAX_VALUE));
    }

    private static void tellingChangesNothing() {
        refused("tree()", 20, x -> x.tree());
        refused("pair(0)", 3, x -> x.pair(0));
        refused("dry(0)", 3, x -> x.dry(0));
        refused("where(20, 0)", 9999, x -> x.where(20, 0));
        refused("see() of what is seen", 3, x -> x.see());
    }
}
