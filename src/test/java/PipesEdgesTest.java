/** Each sentence of promises 7 to 14 that names a boundary case, with a test of its own. */
public final class PipesEdgesTest {
    private static final int NUMBER = DrainOffice.NUMBER;
    private static final int KIND = DrainOffice.KIND;
    private static final int HIGH = DrainOffice.HIGH;
    private static final int RING = DrainOffice.RING;
    private static final Check check = new Check();

    public static void main(String[] args) {
        trenchFromTheFirstToTheLastPlace();
        trenchLevelsAndFalls();
        trenchIsNotLookedAtForCover();
        trenchIsNoneAtFirstAndBehindLand();
        trenchStaysBehindPipes();
        trenchIsTheLatest();
        pipeAnswersItsNumber();
        pipeLeadsIntoNothing();
        lifeCountsForMolesAlone();
        pipeNamesTheFirstBareStep();
        pipeRefusalsComeInOrder();
        joinAnswersTheRank();
        joinNeedsPipes();
        joinLooksAtTheLastStepAlone();
        joinLooksAtTheLevelThere();
        joinRefusesRingsOfAnyLength();
        joinMendsNothingWhenRefused();
        openOfEachDitch();
        partAnswersOneOrNought();
        blockAnswersOneOrNought();
        blockOfTheFirstAndTheLast();
        ofKnowsTwelveThings();
        ofTellsTheLatestHour();
        stepKnowsThreeThings();
        stepTellsCoverAsItIsNow();
        check.finish();
    }

    private static void trenchFromTheFirstToTheLastPlace() {
        check.sentence("Promise 7: NUMBER: there is no such PLACE, a is b, or no ROW and no COLUMN together");
        DrainOffice x = Offices.land(6, 1);
        check.due("to the last", x.trench(0, 5, 900, 1), 6);
        check.due("from the last", x.trench(5, 0, 900, 1), 6);
        check.due("behind the last", x.trench(0, 6, 900, 1), NUMBER);
        check.due("from behind the last", x.trench(6, 0, 900, 1), NUMBER);
        check.due("ahead of the first", x.trench(-1, 0, 900, 1), NUMBER);
        check.due("to ahead of the first", x.trench(0, -1, 900, 1), NUMBER);
        for (int a = 0; a < 6; a++) {
            check.due("a is b", x.trench(a, a, 900, 1), NUMBER);
        }
        DrainOffice y = Offices.land(6, 6);
        for (int a = 0; a < 36; a++) {
            int b = (a * 7 + 3) % 36;
            boolean row = a / 6 == b / 6;
            boolean column = a % 6 == b % 6;
            int steps = 1 + Math.abs(a / 6 - b / 6) + Math.abs(a % 6 - b % 6);
            check.due("from " + a + " to " + b, y.trench(a, b, 900, 1), a != b && (row || column) ? steps : NUMBER);
        }
    }

    private static void trenchLevelsAndFalls() {
        check.sentence("Promise 7: level isn't 0 to 2000, or fall not 1 to 50");
        DrainOffice x = Offices.land(1, 2);
        check.ends("trench(0, 1, .., 1)", 0, 2000, n -> x.trench(0, 1, n, 1), 2, NUMBER);
        check.ends("trench(0, 1, .., 50)", 0, 2000, n -> x.trench(0, 1, n, 50), 2, NUMBER);
        check.ends("trench(0, 1, 0, ..)", 1, 50, n -> x.trench(0, 1, 0, n), 2, NUMBER);
        check.ends("trench(0, 1, 2000, ..)", 1, 50, n -> x.trench(0, 1, 2000, n), 2, NUMBER);
    }

    private static void trenchIsNotLookedAtForCover() {
        check.sentence("Promise 7: how many STEPS it has (COVER is a matter of pipe)");
        DrainOffice x = Offices.land(1, 6);
        check.due("above the ground", x.trench(0, 5, 2000, 1), 6);
        check.due("below LEVEL 0", x.trench(0, 5, 0, 50), 6);
        check.due("so it is in hand", x.pipe(0, 1, 0), -101);
    }

    private static void trenchIsNoneAtFirstAndBehindLand() {
        check.sentence("Promise 7: (At first, and behind land(), there is none.)");
        DrainOffice x = new DrainOffice();
        check.due("at first", x.pipe(0, 1, 0), DrainOffice.NONE);
        x.land(1, 2);
        check.due("behind land", x.pipe(0, 1, 0), DrainOffice.NONE);
        check.due("a refused one", x.trench(0, 2, 900, 1), NUMBER);
        check.due("is none", x.pipe(0, 1, 0), DrainOffice.NONE);
        x.trench(0, 1, 900, 1);
        check.due("a refused land", x.land(0, 2), NUMBER);
        check.due("leaves it", x.pipe(0, 1, 0), 0);
        x.land(1, 2);
        check.due("behind land", x.pipe(0, 1, 0), DrainOffice.NONE);
    }

    private static void trenchStaysBehindPipes() {
        check.sentence("Promise 8: A PIPE comes in the trench IN HAND (which stays)");
        DrainOffice x = Offices.land(1, 3);
        x.trench(2, 0, 900, 7);
        check.due("a refused pipe", x.pipe(0, 9, 0), NUMBER);
        for (int p = 0; p < 3; p++) {
            check.due("pipe", x.pipe(1, 1 + p, 0), p);
            check.due("its first PLACE", x.step(p, 0, 0), 2);
            check.due("its last PLACE", x.step(p, 2, 0), 0);
            check.due("its last LEVEL", x.step(p, 2, 1), 886);
        }
    }

    private static void trenchIsTheLatest() {
        check.sentence("Promise 7: A trench IN HAND");
        DrainOffice x = Offices.land(2, 2);
        x.trench(0, 1, 900, 7);
        x.trench(3, 1, 800, 8);
        check.due("refused", x.trench(0, 1, 900, 51), NUMBER);
        x.pipe(1, 1, 0);
        check.due("the latest that was not refused", x.step(0, 0, 0), 3);
        check.due("its LEVEL", x.step(0, 1, 1), 792);
        x.trench(0, 1, 700, 1);
        check.due("a PIPE stays in its own", x.step(0, 0, 1), 800);
    }

    private static void pipeAnswersItsNumber() {
        check.sentence("Promise 8: its number; FULL");
        DrainOffice x = Offices.land(1, 2);
        x.trench(0, 1, 900, 1);
        for (int p = 0; p < 20; p++) {
            check.due("its number", x.pipe(3 - p % 4, 1 + p % 4, 1 + p), p);
        }
        for (int kind = 0; kind < 4; kind++) {
            check.due("one too many", x.pipe(kind, 1, 1), DrainOffice.FULL);
        }
        check.due("twenty", x.many(1), 20);
        check.due("the last one", x.of(19, 0), 0);
        check.due("none behind it", x.of(20, 0), NUMBER);
    }

    private static void pipeLeadsIntoNothing() {
        check.sentence("Promise 8: It leads INTO nothing");
        DrainOffice x = Offices.drained();
        x.hours(3);
        for (int kind = 0; kind < 4; kind++) {
            int p = Offices.lay(x, 0, 1, 900, 1, kind);
            check.due("of(p, 6)", x.of(p, 6), -1);
            check.due("RANK", x.of(p, 5), 0);
            check.due("not BLOCKED", x.of(p, 7), 0);
            check.due("nothing in it", x.of(p, 8), 0);
            check.due("nothing passed on", x.of(p, 11), 0);
            check.due("part", x.part(p), 0);
        }
    }

    private static void lifeCountsForMolesAlone() {
        check.sentence("Promise 8: Life counts for a MOLE alone");
        DrainOffice x = Offices.land(1, 2);
        x.trench(0, 1, 900, 1);
        int p = 0;
        for (int life : new int[] {Integer.MIN_VALUE, -1, 0, 101, Integer.MAX_VALUE}) {
            check.due("a lateral", x.pipe(0, 1, life), p);
            check.due("a main", x.pipe(1, 1, life), p + 1);
            check.due("an outfall", x.pipe(3, 1, life), p + 2);
            check.due("a mole", x.pipe(2, 1, life), NUMBER);
            for (int q = p; q < p + 3; q++) {
                check.due("no LIFE", x.of(q, 9), 0);
            }
            p += 3;
        }
        check.ends("a mole's LIFE", 1, 100, n -> moleOf(n), 0, NUMBER);
    }

    private static int moleOf(int life) {
        DrainOffice x = Offices.land(1, 2);
        x.trench(0, 1, 900, 1);
        return x.pipe(2, 1, life);
    }

    private static void pipeNamesTheFirstBareStep() {
        check.sentence("Promise 8: COVER less the first step without it");
        for (int first = 0; first < 6; first++) {
            for (int way = 0; way < 2; way++) {
                DrainOffice x = Offices.land(1, 6);
                for (int k = first; k < 6; k++) {
                    x.height(way == 0 ? k : 5 - k, 600);
                }
                x.trench(way == 0 ? 0 : 5, way == 0 ? 5 : 0, 900, 1);
                check.due("bare from step " + first + " on", x.pipe(0, 1, 0), -100 - first);
                check.due("none came", x.many(1), 0);
            }
        }
        DrainOffice y = Offices.land(1, 6);
        y.height(4, 100);
        y.trench(0, 5, 120, 50);
        check.due("step 3 is below LEVEL 0 ahead of step 4", y.pipe(0, 1, 0), -103);
        y.height(1, 129);
        check.due("step 1 has too little above it", y.pipe(0, 1, 0), -101);
    }

    private static void pipeRefusalsComeInOrder() {
        check.sentence("Promise 8: NUMBER ..; NONE ..; COVER ..; FULL");
        DrainOffice x = Offices.land(1, 2);
        check.due("NUMBER and NONE", x.pipe(4, 1, 0), NUMBER);
        check.due("NONE", x.pipe(3, 1, 0), DrainOffice.NONE);
        x.trench(0, 1, 941, 1);
        check.due("NUMBER and COVER", x.pipe(0, 0, 0), NUMBER);
        check.due("COVER", x.pipe(0, 1, 0), -100);
        x.trench(0, 1, 940, 1);
        for (int p = 0; p < 20; p++) {
            x.pipe(0, 1, 0);
        }
        check.due("NUMBER and FULL", x.pipe(2, 1, 101), NUMBER);
        check.due("FULL", x.pipe(2, 1, 100), DrainOffice.FULL);
        x.trench(0, 1, 941, 1);
        check.due("COVER and FULL", x.pipe(0, 1, 0), -100);
        check.due("NUMBER, COVER and FULL", x.pipe(-1, 1, 0), NUMBER);
    }

    /** So many mains in one trench. */
    private static DrainOffice mains(int count) {
        DrainOffice x = Offices.land(1, 2);
        x.trench(0, 1, 900, 1);
        for (int p = 0; p < count; p++) {
            x.pipe(1, 1, 0);
        }
        return x;
    }

    private static void joinAnswersTheRank() {
        check.sentence("Promise 9: PIPE p leads INTO PIPE q: RANK of p then");
        DrainOffice x = mains(20);
        for (int p = 0; p < 19; p++) {
            check.due("RANK 1, of all into one", x.join(p, 19), 1);
        }
        for (int p = 18; p > 0; p--) {
            check.due("join(" + (p - 1) + ", " + p + ")", x.join(p - 1, p), 20 - p);
        }
        check.due("the greatest RANK", x.of(0, 5), 19);
        check.due("once more", x.join(0, 1), 19);
        check.due("straight", x.join(0, 19), 1);
        check.due("it leads there", x.of(0, 6), 19);
    }

    private static void joinNeedsPipes() {
        check.sentence("Promise 9: NUMBER: there is no such PIPE");
        DrainOffice x = mains(20);
        check.ends("join(.., 5)", 0, 19, n -> x.join(n, 5), 1, NUMBER);
        x.part(0);
        x.part(19);
        check.ends("join(5, ..)", 0, 19, n -> x.join(5, n), 1, NUMBER);
        DrainOffice y = mains(2);
        check.due("join(0, 2)", y.join(0, 2), NUMBER);
        check.due("join(2, 0)", y.join(2, 0), NUMBER);
        check.due("join(2, 2)", y.join(2, 2), NUMBER);
    }

    private static void joinLooksAtTheLastStepAlone() {
        check.sentence("Promise 9: KIND: the last step of p is no step of q");
        DrainOffice x = Offices.land(3, 3);
        int main = Offices.lay(x, 3, 5, 800, 1, Offices.MAIN);
        int first = Offices.lay(x, 0, 3, 900, 1, Offices.LATERAL);
        int middle = Offices.lay(x, 7, 4, 900, 1, Offices.LATERAL);
        int last = Offices.lay(x, 2, 5, 900, 1, Offices.MOLE);
        int across = Offices.lay(x, 1, 7, 900, 1, Offices.LATERAL);
        int starts = Offices.lay(x, 5, 8, 900, 1, Offices.LATERAL);
        int none = Offices.lay(x, 6, 7, 900, 1, Offices.MAIN);
        check.due("on its first step", x.join(first, main), 1);
        check.due("on a step between", x.join(middle, main), 1);
        check.due("on its last step", x.join(last, main), 1);
        check.due("across it, but ends elsewhere", x.join(across, main), KIND);
        check.due("starts on it, but ends elsewhere", x.join(starts, main), KIND);
        check.due("nowhere on it", x.join(none, main), KIND);
    }

    private static void joinLooksAtTheLevelThere() {
        check.sentence("Promise 9: HIGH: the LEVEL of p there is below that of q");
        DrainOffice x = Offices.land(2, 6);
        int main = Offices.lay(x, 0, 5, 800, 20, Offices.MAIN);
        for (int k = 0; k < 6; k++) {
            int level = 800 - 20 * k;
            int above = Offices.lay(x, 6 + k, k, level + 4, 3, Offices.LATERAL);
            check.due("1 above at step " + k, x.join(above, main), 1);
            int like = Offices.lay(x, 6 + k, k, level + 3, 3, Offices.LATERAL);
            check.due("alike at step " + k, x.join(like, main), 1);
            int below = Offices.lay(x, 6 + k, k, level + 2, 3, Offices.LATERAL);
            check.due("1 below at step " + k, x.join(below, main), HIGH);
            check.due("it leads into nothing", x.of(below, 6), -1);
        }
    }

    private static void joinRefusesRingsOfAnyLength() {
        check.sentence("Promise 9: RING: q is p, or leads, through others or not, INTO p");
        for (int length = 1; length <= 20; length++) {
            DrainOffice x = mains(20);
            for (int p = 0; p < length - 1; p++) {
                x.join(p, p + 1);
            }
            check.due("a ring of " + length, x.join(length - 1, 0), RING);
            check.due("it leads into nothing", x.of(length - 1, 6), -1);
            if (length < 20) {
                check.due("no ring", x.join(length, 0), length);
            }
        }
        DrainOffice y = mains(3);
        y.join(0, 1);
        check.due("a ring", y.join(1, 0), RING);
        y.part(0);
        check.due("none behind part", y.join(1, 0), 1);
        check.due("but the other way", y.join(0, 1), RING);
        check.due("away from there", y.join(1, 2), 1);
        check.due("then it may be", y.join(0, 1), 2);
    }

    private static void joinMendsNothingWhenRefused() {
        check.sentence("Promise 9: refused, p leads INTO what it did");
        DrainOffice x = mains(3);
        x.join(0, 1);
        x.join(1, 2);
        check.due("RING", x.join(2, 0), RING);
        check.due("RING of itself", x.join(1, 1), RING);
        check.due("NUMBER", x.join(0, 3), NUMBER);
        int[] into = {1, 2, -1};
        for (int p = 0; p < 3; p++) {
            check.due("of(" + p + ", 6)", x.of(p, 6), into[p]);
        }
    }

    private static void openOfEachDitch() {
        check.sentence("Promise 10: NUMBER: there is no such PIPE, DITCH; KIND: it is no OUTFALL");
        DrainOffice x = Offices.land(1, 2);
        x.trench(0, 1, 900, 1);
        for (int p = 0; p < 20; p++) {
            x.pipe(3, 1, 0);
        }
        check.ends("open(.., 2)", 0, 19, n -> x.open(n, 2), 1, NUMBER);
        check.ends("open(7, ..)", 0, 3, n -> x.open(7, n), 1, NUMBER);
        check.due("of(0, 6)", x.of(0, 6), 102);
        check.due("of(19, 6)", x.of(19, 6), 102);
        check.due("of(7, 6)", x.of(7, 6), 103);
        check.due("of(1, 6)", x.of(1, 6), -1);
        check.due("the same again", x.open(7, 3), 1);
        x.ditch(3, 2000);
        check.due("a DITCH above it may be, too", x.open(1, 3), 1);
        DrainOffice y = Offices.land(1, 2);
        y.trench(0, 1, 900, 1);
        for (int kind = 0; kind < 3; kind++) {
            y.pipe(kind, 1, 1);
            for (int ditch = 0; ditch < 4; ditch++) {
                check.due("KIND " + kind + " into " + ditch, y.open(kind, ditch), KIND);
            }
            check.due("NUMBER ahead of KIND", y.open(kind, 4), NUMBER);
            check.due("NUMBER ahead of KIND", y.open(kind, -1), NUMBER);
        }
    }

    private static void partAnswersOneOrNought() {
        check.sentence("Promise 11: PIPE p leads INTO nothing: 1; 0 if it did already. NUMBER: there is none such");
        DrainOffice x = mains(20);
        check.ends("part(..), leading into nothing", 0, 19, n -> x.part(n), 0, NUMBER);
        for (int p = 0; p < 19; p++) {
            x.join(p, p + 1);
        }
        for (int p = 0; p < 19; p++) {
            check.due("part(" + p + ")", x.part(p), 1);
            check.due("part(" + p + ") again", x.part(p), 0);
            check.due("of(" + p + ", 6)", x.of(p, 6), -1);
        }
        DrainOffice y = Offices.drained();
        check.due("into DITCH 0", y.part(1), 1);
        check.due("already", y.part(1), 0);
        y.open(1, 3);
        check.due("into DITCH 3", y.part(1), 1);
        check.due("into PIPE 1", y.part(0), 1);
    }

    private static void blockAnswersOneOrNought() {
        check.sentence("Promise 12: 1 if that changes something, else 0");
        DrainOffice x = mains(20);
        for (int p = 0; p < 20; p++) {
            check.due("not so at first", x.block(p, false), 0);
            check.due("how many yet", x.many(6), p);
            check.due("block", x.block(p, true), 1);
            check.due("block again", x.block(p, true), 0);
            check.due("of(" + p + ", 7)", x.of(p, 7), 1);
        }
        check.due("all", x.many(6), 20);
        for (int p = 19; p >= 0; p--) {
            check.due("no more", x.block(p, false), 1);
            check.due("no more, again", x.block(p, false), 0);
            check.due("how many are left", x.many(6), p);
        }
    }

    private static void blockOfTheFirstAndTheLast() {
        check.sentence("Promise 12: NUMBER: there is none such");
        DrainOffice x = mains(20);
        check.ends("block(.., true)", 0, 19, n -> x.block(n, true), 1, NUMBER);
        check.ends("block(.., false)", 0, 19, n -> x.block(n, false), 1, NUMBER);
        check.due("none of none", Offices.land(1, 2).block(0, true), NUMBER);
    }

    private static void ofKnowsTwelveThings() {
        check.sentence("Promise 13: NUMBER: there is none such, another what");
        DrainOffice x = mains(20);
        for (int what = 0; what <= 11; what++) {
            check.due("of(20, " + what + ")", x.of(20, what), NUMBER);
            check.due("of(-1, " + what + ")", x.of(-1, what), NUMBER);
        }
        int[] of = {1, 2, 1, 6, 80, 0, -1, 0, 0, 0, 0, 0};
        for (int p = 0; p < 20; p += 19) {
            for (int what = 0; what < of.length; what++) {
                check.due("of(" + p + ", " + what + ")", x.of(p, what), of[what]);
            }
            check.due("of(" + p + ", -1)", x.of(p, -1), NUMBER);
            check.due("of(" + p + ", 12)", x.of(p, 12), NUMBER);
        }
        check.due("of(0, 0) of none", new DrainOffice().of(0, 0), NUMBER);
    }

    private static void ofTellsTheLatestHour() {
        check.sentence("Promise 13: 11 what it passed on in the latest HOUR (0 ahead of any)");
        DrainOffice x = Offices.drained();
        x.rain(0, 9);
        check.due("ahead of any", x.of(0, 11), 0);
        x.hours(1);
        check.due("6 of 9", x.of(0, 11), 6);
        x.rain(0, 0);
        x.hours(1);
        check.due("the 3 left", x.of(0, 11), 3);
        check.due("the outfall", x.of(1, 11), 6);
        x.block(0, true);
        x.part(1);
        check.due("still the latest HOUR", x.of(1, 11), 6);
        x.hours(1);
        check.due("none in it", x.of(1, 11), 0);
        x.open(1, 0);
        x.block(0, false);
        x.rain(0, 9);
        x.hours(50);
        check.due("of the last HOUR of fifty", x.of(1, 11), 6);
        int late = Offices.lay(x, 0, 1, 900, 1, Offices.LATERAL);
        check.due("of a PIPE that came behind it", x.of(late, 11), 0);
    }

    private static void stepKnowsThreeThings() {
        check.sentence("Promise 14: NUMBER is answered as -10000: no such PIPE, step, another what");
        DrainOffice x = Offices.land(6, 6);
        Offices.lay(x, 0, 5, 900, 3, Offices.MAIN);
        Offices.lay(x, 35, 29, 900, 3, Offices.MAIN);
        check.ends("step(.., 0, 2)", 0, 1, n -> x.step(n, 0, 2), 100, -10000);
        for (int what = 0; what <= 2; what++) {
            check.due("step(0, 6, " + what + ")", x.step(0, 6, what), -10000);
            check.due("step(0, -1, " + what + ")", x.step(0, -1, what), -10000);
            check.due("step(1, 2, " + what + ")", x.step(1, 2, what), -10000);
            check.due("step(2, 0, " + what + ")", x.step(2, 0, what), -10000);
        }
        check.due("PLACE of the last step", x.step(0, 5, 0), 5);
        check.due("LEVEL of the last step", x.step(0, 5, 1), 885);
        check.due("COVER of the last step", x.step(0, 5, 2), 115);
        check.due("PLACE of step 0", x.step(1, 0, 0), 35);
        check.due("PLACE of step 1", x.step(1, 1, 0), 29);
        check.due("step(0, 0, 3)", x.step(0, 0, 3), -10000);
        check.due("step(0, 0, -1)", x.step(0, 0, -1), -10000);
    }

    private static void stepTellsCoverAsItIsNow() {
        check.sentence("Promise 14: the COVER there as it is now (it may be below 60, or 0)");
        DrainOffice x = Offices.land(1, 2);
        Offices.lay(x, 0, 1, 940, 1, Offices.MAIN);
        int[][] cases = {{1000, 60}, {999, 59}, {941, 1}, {940, 0}, {939, -1}, {0, -940}, {2000, 1060}};
        for (int[] one : cases) {
            x.height(0, one[0]);
            check.due("HEIGHT " + one[0], x.step(0, 0, 2), one[1]);
            check.due("the other step", x.step(0, 1, 2), 61);
        }
    }
}
