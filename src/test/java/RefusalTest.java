import java.util.function.ToIntFunction;

/**
 * "A call that is refused changes nothing. Of several refusals that a call names the first one
 * named is answered": each refusal of each call, with the numbers just outside and far outside.
 */
public final class RefusalTest {
    private static final int LEAST = Integer.MIN_VALUE;
    private static final int MOST = Integer.MAX_VALUE;
    private static final int NUMBER = DrainOffice.NUMBER;
    private static final int KIND = DrainOffice.KIND;
    private static final int NO_STEP = -10000;
    private static final int[] NO_PLACES = {-1, 4, -2, 35, 36, LEAST, MOST};
    private static final int[] NO_PIPES = {-1, 4, 19, 20, 100, LEAST, MOST};
    private static final int[] NO_FOURTH = {-1, 4, LEAST, MOST};
    private static final Check check = new Check();

    public static void main(String[] args) {
        land();
        height();
        soil();
        soils();
        ditch();
        trench();
        pipeNumbers();
        pipeNone();
        pipeCover();
        pipeFull();
        join();
        joinHigh();
        joinRing();
        open();
        part();
        block();
        of();
        step();
        rain();
        hours();
        at();
        allAndMany();
        dry();
        markAndPair();
        sight();
        where();
        back();
        tellingChangesNothing();
        check.finish();
    }

    private static void refused(String name, int want, ToIntFunction<DrainOffice> call) {
        Twins.unchanged(check, Offices::busy, name, want, call);
    }

    private static void land() {
        check.sentence("Promise 2: NUMBER: rows or columns isn't 1 to 6");
        for (int side : new int[] {0, 7, -1, LEAST, MOST}) {
            refused("land(" + side + ", 1)", NUMBER, x -> x.land(side, 1));
            refused("land(6, " + side + ")", NUMBER, x -> x.land(6, side));
            refused("land(" + side + ", " + side + ")", NUMBER, x -> x.land(side, side));
        }
    }

    private static void height() {
        check.sentence("Promise 3: NUMBER: there is no such PLACE, or it isn't 0 to 2000");
        for (int place : NO_PLACES) {
            refused("height(" + place + ", 5)", NUMBER, x -> x.height(place, 5));
        }
        for (int height : new int[] {-1, 2001, LEAST, MOST}) {
            refused("height(0, " + height + ")", NUMBER, x -> x.height(0, height));
            refused("height(4, " + height + ")", NUMBER, x -> x.height(4, height));
        }
    }

    private static void soil() {
        check.sentence("Promise 4: NUMBER: there is no such PLACE, SOIL");
        for (int place : NO_PLACES) {
            refused("soil(" + place + ", 1)", NUMBER, x -> x.soil(place, 1));
        }
        for (int soil : NO_FOURTH) {
            refused("soil(0, " + soil + ")", NUMBER, x -> x.soil(0, soil));
        }
    }

    private static void soils() {
        check.sentence("Promise 5: NUMBER: there is no such SOIL, or a number isn't as told");
        for (int soil : NO_FOURTH) {
            refused("soils(" + soil + ", ..)", NUMBER, x -> x.soils(soil, 1, 1, 1, 1));
        }
        for (int soil = 0; soil < 4; soil++) {
            int s = soil;
            for (int below : new int[] {-1, LEAST}) {
                refused("takes " + below, NUMBER, x -> x.soils(s, below, 1, 1, 1));
                refused("gives " + below, NUMBER, x -> x.soils(s, 1, below, 1, 1));
                refused("keeps " + below, NUMBER, x -> x.soils(s, 1, 1, below, 1));
                refused("reaches " + below, NUMBER, x -> x.soils(s, 1, 1, 1, below));
            }
            refused("takes 201", NUMBER, x -> x.soils(s, 201, 1, 1, 1));
            refused("gives 101", NUMBER, x -> x.soils(s, 1, 101, 1, 1));
            refused("keeps 1001", NUMBER, x -> x.soils(s, 1, 1, 1001, 1));
            refused("reaches 41", NUMBER, x -> x.soils(s, 1, 1, 1, 41));
        }
        refused("takes most", NUMBER, x -> x.soils(0, MOST, 1, 1, 1));
        refused("gives most", NUMBER, x -> x.soils(0, 1, MOST, 1, 1));
        refused("keeps most", NUMBER, x -> x.soils(0, 1, 1, MOST, 1));
        refused("reaches most", NUMBER, x -> x.soils(0, 1, 1, 1, MOST));
    }

    private static void ditch() {
        check.sentence("Promise 6: NUMBER: there is no such DITCH, or it isn't 0 to 2000");
        for (int ditch : NO_FOURTH) {
            refused("ditch(" + ditch + ", 9)", NUMBER, x -> x.ditch(ditch, 9));
        }
        for (int level : new int[] {-1, 2001, LEAST, MOST}) {
            for (int ditch = 0; ditch < 4; ditch++) {
                int d = ditch;
                refused("ditch(" + d + ", " + level + ")", NUMBER, x -> x.ditch(d, level));
            }
        }
    }

    private static void trench() {
        check.sentence("Promise 7: NUMBER: no such PLACE, a is b, no ROW and no COLUMN, level, fall");
        for (int place : NO_PLACES) {
            refused("trench(" + place + ", 0, ..)", NUMBER, x -> x.trench(place, 0, 500, 5));
            refused("trench(0, " + place + ", ..)", NUMBER, x -> x.trench(0, place, 500, 5));
            refused("trench(" + place + ", " + place + ", ..)", NUMBER, x -> x.trench(place, place, 500, 5));
        }
        for (int place = 0; place < 4; place++) {
            int a = place;
            refused("trench to itself", NUMBER, x -> x.trench(a, a, 500, 5));
            refused("trench askew", NUMBER, x -> x.trench(a, 3 - a, 500, 5));
        }
        for (int level : new int[] {-1, 2001, LEAST, MOST}) {
            refused("trench at " + level, NUMBER, x -> x.trench(0, 1, level, 5));
        }
        for (int fall : new int[] {0, -1, 51, LEAST, MOST}) {
            refused("trench falling by " + fall, NUMBER, x -> x.trench(0, 1, 500, fall));
        }
    }

    private static void pipeNumbers() {
        check.sentence("Promise 8: NUMBER: kind isn't 0 to 3, width not 1 to 4, or, of a MOLE, life");
        for (int kind : NO_FOURTH) {
            refused("pipe(" + kind + ", 1, 1)", NUMBER, x -> x.pipe(kind, 1, 1));
        }
        for (int width : new int[] {0, 5, -1, LEAST, MOST}) {
            refused("pipe(0, " + width + ", 1)", NUMBER, x -> x.pipe(0, width, 1));
            refused("pipe(3, " + width + ", 1)", NUMBER, x -> x.pipe(3, width, 1));
        }
        for (int life : new int[] {0, 101, -1, LEAST, MOST}) {
            refused("pipe(2, 1, " + life + ")", NUMBER, x -> x.pipe(2, 1, life));
        }
    }

    private static void pipeNone() {
        check.sentence("Promise 8: NONE: there is no trench, behind NUMBER");
        for (int kind = 0; kind < 4; kind++) {
            int k = kind;
            Twins.unchanged(check, DrainOffice::new, "pipe without a trench", DrainOffice.NONE,
                    x -> x.pipe(k, 1, 5));
            Twins.unchanged(check, () -> Offices.land(2, 2), "pipe behind land", DrainOffice.NONE,
                    x -> x.pipe(k, 4, 5));
            Twins.unchanged(check, () -> Offices.land(2, 2), "NUMBER ahead of NONE", NUMBER,
                    x -> x.pipe(k, 5, 5));
        }
        Twins.unchanged(check, DrainOffice::new, "NUMBER ahead of NONE: kind", NUMBER, x -> x.pipe(4, 1, 5));
        Twins.unchanged(check, DrainOffice::new, "NUMBER ahead of NONE: life", NUMBER, x -> x.pipe(2, 1, 0));
    }

    /** A trench of three steps that has no COVER at its second and third one. */
    private static DrainOffice bare() {
        DrainOffice x = Offices.drained();
        x.land(1, 3);
        x.height(1, 900);
        x.height(2, 900);
        x.trench(0, 2, 900, 10);
        return x;
    }

    private static void pipeCover() {
        check.sentence("Promise 8: COVER less the first step without it, behind NUMBER");
        Twins.unchanged(check, RefusalTest::bare, "pipe", -101, x -> x.pipe(0, 1, 0));
        Twins.unchanged(check, RefusalTest::bare, "a mole", -101, x -> x.pipe(2, 4, 100));
        Twins.unchanged(check, RefusalTest::bare, "NUMBER ahead of COVER: kind", NUMBER, x -> x.pipe(-1, 1, 1));
        Twins.unchanged(check, RefusalTest::bare, "NUMBER ahead of COVER: width", NUMBER, x -> x.pipe(0, 0, 1));
        Twins.unchanged(check, RefusalTest::bare, "NUMBER ahead of COVER: life", NUMBER, x -> x.pipe(2, 1, 101));
    }

    private static void pipeFull() {
        check.sentence("Promise 8: FULL, behind NUMBER and COVER");
        for (int kind = 0; kind < 4; kind++) {
            int k = kind;
            Twins.unchanged(check, Offices::full, "the 21st", DrainOffice.FULL, x -> x.pipe(k, 1, 9));
        }
        Twins.unchanged(check, Offices::full, "NUMBER ahead of FULL: kind", NUMBER, x -> x.pipe(4, 1, 9));
        Twins.unchanged(check, Offices::full, "NUMBER ahead of FULL: width", NUMBER, x -> x.pipe(1, 5, 9));
        Twins.unchanged(check, Offices::full, "NUMBER ahead of FULL: life", NUMBER, x -> x.pipe(2, 1, 0));
        Twins.unchanged(check, RefusalTest::fullAndBare, "COVER ahead of FULL", -101, x -> x.pipe(1, 1, 9));
        Twins.unchanged(check, RefusalTest::fullAndBare, "NUMBER ahead of both", NUMBER, x -> x.pipe(1, 0, 9));
    }

    private static DrainOffice fullAndBare() {
        return Twins.called(Offices::full, x -> x.height(1, 900));
    }

    private static void join() {
        check.sentence("Promise 9: NUMBER: no such PIPE; KIND: p is an OUTFALL, q no MAIN, or no step of q");
        for (int p : NO_PIPES) {
            refused("join(" + p + ", 1)", NUMBER, x -> x.join(p, 1));
            refused("join(0, " + p + ")", NUMBER, x -> x.join(0, p));
            refused("join(" + p + ", " + p + ")", NUMBER, x -> x.join(p, p));
            refused("join(2, " + p + "): NUMBER ahead of KIND", NUMBER, x -> x.join(2, p));
            refused("join(" + p + ", 0): NUMBER ahead of KIND", NUMBER, x -> x.join(p, 0));
        }
        refused("join(2, 1): an outfall", KIND, x -> x.join(2, 1));
        refused("join(3, 0): a lateral", KIND, x -> x.join(3, 0));
        refused("join(0, 3): a mole", KIND, x -> x.join(0, 3));
        refused("join(0, 2): no step of it", KIND, x -> x.join(0, 2));
        refused("join(2, 2): KIND ahead of RING, an outfall", KIND, x -> x.join(2, 2));
        refused("join(0, 0): KIND ahead of RING, a lateral", KIND, x -> x.join(0, 0));
        refused("join(2, 0): KIND ahead of HIGH and RING", KIND, x -> x.join(2, 0));
    }

    /** Main 0 from place 0 to 1 at 800 and 799; others end on place 1, at 799 or lower. */
    private static DrainOffice levels() {
        DrainOffice x = Offices.thirsty(1, 3);
        Offices.lay(x, 0, 1, 800, 1, Offices.MAIN);
        Offices.lay(x, 2, 1, 799, 1, Offices.LATERAL);
        Offices.lay(x, 2, 1, 799, 1, Offices.OUTFALL);
        Offices.lay(x, 0, 1, 790, 2, Offices.MAIN);
        x.join(0, 3);
        return x;
    }

    private static void joinHigh() {
        check.sentence("Promise 9: HIGH: the LEVEL of p there is below that of q, behind KIND");
        Twins.unchanged(check, RefusalTest::levels, "798 into 799", DrainOffice.HIGH, x -> x.join(1, 0));
        Twins.unchanged(check, RefusalTest::levels, "KIND ahead of HIGH: an outfall", KIND, x -> x.join(2, 0));
        Twins.unchanged(check, RefusalTest::levels, "KIND ahead of HIGH: into a lateral", KIND, x -> x.join(3, 1));
        Twins.unchanged(check, RefusalTest::levels, "HIGH ahead of RING", DrainOffice.HIGH, x -> x.join(3, 0));
    }

    /** Mains 0 into 1 into 2 in one trench, and main 3 into 0 from a place of its own. */
    private static DrainOffice mains() {
        DrainOffice x = Offices.thirsty(1, 3);
        x.trench(0, 1, 800, 1);
        for (int p = 0; p < 3; p++) {
            x.pipe(1, 1, 0);
        }
        Offices.lay(x, 2, 1, 900, 1, Offices.MAIN);
        x.join(0, 1);
        x.join(1, 2);
        x.join(3, 0);
        Offices.lay(x, 1, 2, 700, 1, Offices.MAIN);
        x.join(2, 4);
        return x;
    }

    private static void joinRing() {
        check.sentence("Promise 9: RING: q is p, or leads, through others or not, INTO p");
        for (int p = 0; p < 5; p++) {
            int q = p;
            Twins.unchanged(check, RefusalTest::mains, "q is p", DrainOffice.RING, x -> x.join(q, q));
        }
        Twins.unchanged(check, RefusalTest::mains, "q leads into p", DrainOffice.RING, x -> x.join(1, 0));
        Twins.unchanged(check, RefusalTest::mains, "through another", DrainOffice.RING, x -> x.join(2, 0));
        Twins.unchanged(check, RefusalTest::mains, "KIND ahead of RING", KIND, x -> x.join(4, 0));
        Twins.unchanged(check, RefusalTest::mains, "HIGH ahead of RING", DrainOffice.HIGH, x -> x.join(4, 3));
    }

    private static void open() {
        check.sentence("Promise 10: NUMBER: no such PIPE, DITCH; KIND: it is no OUTFALL");
        for (int ditch : NO_FOURTH) {
            refused("open(2, " + ditch + ")", NUMBER, x -> x.open(2, ditch));
            refused("open(1, " + ditch + "): NUMBER ahead of KIND", NUMBER, x -> x.open(1, ditch));
        }
        for (int p : NO_PIPES) {
            refused("open(" + p + ", 0)", NUMBER, x -> x.open(p, 0));
        }
        refused("open of a lateral", KIND, x -> x.open(0, 0));
        refused("open of a main", KIND, x -> x.open(1, 3));
        refused("open of a mole", KIND, x -> x.open(3, 2));
    }

    private static void part() {
        check.sentence("Promise 11: 0 if it did already; NUMBER: there is none such");
        refused("part of one that leads into nothing", 0, x -> x.part(3));
        for (int p : NO_PIPES) {
            refused("part(" + p + ")", NUMBER, x -> x.part(p));
        }
    }

    private static void block() {
        check.sentence("Promise 12: 1 if that changes something, else 0; NUMBER: there is none such");
        refused("block of a blocked one", 0, x -> x.block(3, true));
        refused("no block of one that isn't", 0, x -> x.block(0, false));
        for (int p : NO_PIPES) {
            refused("block(" + p + ", true)", NUMBER, x -> x.block(p, true));
            refused("block(" + p + ", false)", NUMBER, x -> x.block(p, false));
        }
    }

    private static void of() {
        check.sentence("Promise 13: NUMBER: there is none such, another what");
        for (int p : NO_PIPES) {
            refused("of(" + p + ", 0)", NUMBER, x -> x.of(p, 0));
        }
        for (int what : new int[] {-1, 12, LEAST, MOST}) {
            refused("of(0, " + what + ")", NUMBER, x -> x.of(0, what));
            refused("of(4, " + what + ")", NUMBER, x -> x.of(4, what));
        }
    }

    private static void step() {
        check.sentence("Promise 14: NUMBER is answered as -10000: no such PIPE, step, another what");
        for (int p : NO_PIPES) {
            refused("step(" + p + ", 0, 0)", NO_STEP, x -> x.step(p, 0, 0));
        }
        for (int k : new int[] {-1, 2, LEAST, MOST}) {
            refused("step(0, " + k + ", 0)", NO_STEP, x -> x.step(0, k, 0));
        }
        for (int what : new int[] {-1, 3, LEAST, MOST}) {
            refused("step(0, 0, " + what + ")", NO_STEP, x -> x.step(0, 0, what));
        }
    }

    private static void rain() {
        check.sentence("Promise 15: NUMBER: there is no such PLACE, or it isn't 0 to 300");
        for (int rain : new int[] {-1, 301, LEAST, MOST}) {
            refused("rain(0, " + rain + ")", NUMBER, x -> x.rain(0, rain));
            refused("rain(-1, " + rain + ")", NUMBER, x -> x.rain(-1, rain));
        }
        for (int place : new int[] {-2, 4, 36, LEAST, MOST}) {
            refused("rain(" + place + ", 5)", NUMBER, x -> x.rain(place, 5));
        }
    }

    private static void hours() {
        check.sentence("Promise 16: NUMBER: n isn't 1 to 50");
        for (int n : new int[] {0, 51, -1, LEAST, MOST}) {
            refused("hours(" + n + ")", NUMBER, x -> x.hours(n));
        }
    }

    private static void at() {
        check.sentence("Promise 17: NUMBER: there is none such, another what");
        for (int place : NO_PLACES) {
            refused("at(" + place + ", 0)", NUMBER, x -> x.at(place, 0));
        }
        for (int what : new int[] {-1, 6, LEAST, MOST}) {
            refused("at(0, " + what + ")", NUMBER, x -> x.at(0, what));
        }
    }

    private static void allAndMany() {
        check.sentence("Promises 18 and 19: NUMBER: another what");
        for (int what : new int[] {-1, 8, LEAST, MOST}) {
            refused("all(" + what + ")", NUMBER, x -> x.all(what));
        }
        for (int what : new int[] {-1, 7, LEAST, MOST}) {
            refused("many(" + what + ")", NUMBER, x -> x.many(what));
        }
    }

    private static void dry() {
        check.sentence("Promise 20: NONE: there is none such");
        int unreached = Offices.busy().many(3);
        for (int i : new int[] {-1, unreached, LEAST, MOST}) {
            refused("dry(" + i + ")", DrainOffice.NONE, x -> x.dry(i));
        }
    }

    private static void markAndPair() {
        check.sentence("Promise 21: 1 if that changes something, else 0; NUMBER: there is none such");
        refused("mark of a marked one", 0, x -> x.mark(0, true));
        refused("no mark of one that isn't", 0, x -> x.mark(1, false));
        for (int place : NO_PLACES) {
            refused("mark(" + place + ", true)", NUMBER, x -> x.mark(place, true));
            refused("mark(" + place + ", false)", NUMBER, x -> x.mark(place, false));
        }
        check.sentence("Promise 23: NONE: there is none such");
        for (int i : new int[] {-1, 1, LEAST, MOST}) {
            refused("pair(" + i + ")", DrainOffice.NONE, x -> x.pair(i));
        }
    }

    private static void sight() {
        check.sentence("Promise 24: 1 if that changes something, else 0; NUMBER: there is none such");
        refused("sight of one that is in it", 0, x -> x.sight(3, true));
        for (int place : NO_PLACES) {
            refused("sight(" + place + ", true)", NUMBER, x -> x.sight(place, true));
            refused("sight(" + place + ", false)", NUMBER, x -> x.sight(place, false));
        }
    }

    private static void where() {
        check.sentence("Promise 26: NUMBER: h isn't 1 to 20, or k below 0; NONE: there is none such");
        for (int h : new int[] {0, 21, -1, LEAST, MOST}) {
            refused("where(" + h + ", 0)", NUMBER, x -> x.where(h, 0));
            refused("where(" + h + ", most): NUMBER ahead of NONE", NUMBER, x -> x.where(h, MOST));
        }
        refused("where(1, -1)", NUMBER, x -> x.where(1, -1));
        refused("where(20, least)", NUMBER, x -> x.where(20, LEAST));
        refused("where(20, most)", DrainOffice.NONE, x -> x.where(20, MOST));
        refused("where(1, most)", DrainOffice.NONE, x -> x.where(1, MOST));
    }

    private static void back() {
        check.sentence("Promise 28: NONE: nothing is kept");
        Twins.unchanged(check, DrainOffice::new, "back of a new object", DrainOffice.NONE, DrainOffice::back);
        Twins.unchanged(check, Offices::drained, "back", DrainOffice.NONE, DrainOffice::back);
        Twins.unchanged(check, Offices::full, "back", DrainOffice.NONE, DrainOffice::back);
    }

    private static void tellingChangesNothing() {
        check.sentence("Nothing is promised to change by what only tells");
        refused("tree()", 20 + 10, x -> x.tree());
        refused("pair(0)", 3, x -> x.pair(0));
        for (int what = 0; what <= 11; what++) {
            int w = what;
            refused("of(1, " + what + ")", Offices.busy().of(1, what), x -> x.of(1, w));
        }
        int fits = Offices.busy().where(20, 0);
        refused("where(20, 0)", fits, x -> x.where(20, 0));
        refused("where(1, 210)", DrainOffice.NONE, x -> x.where(1, 210));
        refused("dry(0)", Offices.busy().dry(0), x -> x.dry(0));
    }
}
