/** Promises 7 to 14: trench, pipe, join, open, part, block, of, step. */
public final class PipesTest {
    private static final Check check = new Check();

    public static void main(String[] args) {
        trenchCountsSteps();
        trenchStaysInHand();
        trenchWorksOnNarrowLand();
        pipeNeedsCoverAtEachStep();
        pipeTellsTheFirstBareStep();
        pipeRefusesInOrder();
        pipeCountsLifeOfMolesAlone();
        pipesAreTwentyAtMost();
        joinGivesTheRank();
        joinLooksAtKindsAndSteps();
        joinLooksAtLevels();
        joinRefusesRings();
        joinLeadsElsewhereAnew();
        openIsForOutfalls();
        partLeadsIntoNothing();
        blockChangesOrNot();
        ofBearsAndHolds();
        ofPeak();
        stepGoesBothWays();
        check.finish();
    }

    private static DrainOffice land(int rows, int columns) {
        DrainOffice x = new DrainOffice();
        x.land(rows, columns);
        return x;
    }

    private static int lay(DrainOffice x, int a, int b, int level, int kind) {
        x.trench(a, b, level, 1);
        return x.pipe(kind, 1, 10);
    }

    private static void trenchCountsSteps() {
        DrainOffice x = land(4, 6);
        check.due("along a row", x.trench(6, 11, 0, 1), 6);
        check.due("along a row, back", x.trench(11, 9, 2000, 50), 3);
        check.due("along a column", x.trench(1, 19, 500, 25), 4);
        check.due("along a column, back", x.trench(23, 17, 500, 25), 2);
        check.due("last to first of its row", x.trench(23, 18, 500, 25), 6);
    }

    private static void trenchStaysInHand() {
        DrainOffice x = land(2, 2);
        x.trench(0, 1, 900, 2);
        check.due("refused trench", x.trench(0, 3, 900, 2), DrainOffice.NUMBER);
        check.due("pipe in the one before", x.pipe(0, 1, 0), 0);
        check.due("pipe there once more", x.pipe(1, 1, 0), 1);
        for (int p = 0; p < 2; p++) {
            check.due("step 0 of " + p, x.step(p, 0, 0), 0);
            check.due("step 1 of " + p, x.step(p, 1, 0), 1);
            check.due("level of " + p, x.step(p, 1, 1), 898);
        }
        x.trench(2, 0, 700, 3);
        check.due("the first pipe stays where it is", x.step(0, 0, 0), 0);
        check.due("pipe in the new one", x.pipe(0, 1, 0), 2);
        check.due("step 0 of 2", x.step(2, 0, 0), 2);
    }

    private static void trenchWorksOnNarrowLand() {
        DrainOffice x = land(6, 1);
        check.due("one column", x.trench(5, 1, 900, 1), 5);
        x.pipe(0, 1, 0);
        check.due("step 4", x.step(0, 4, 0), 1);
        DrainOffice y = land(1, 6);
        check.due("one row", y.trench(1, 5, 900, 1), 5);
        y.pipe(0, 1, 0);
        check.due("step 4", y.step(0, 4, 0), 5);
    }

    private static void pipeNeedsCoverAtEachStep() {
        DrainOffice x = land(1, 3);
        x.trench(0, 2, 940, 1);
        check.due("cover of 60", x.pipe(0, 1, 0), 0);
        x.trench(0, 2, 941, 1);
        check.due("cover of 59 at step 0", x.pipe(0, 1, 0), -100);
        x.trench(0, 2, 100, 50);
        check.due("level 0 at step 2", x.pipe(0, 1, 0), 1);
        x.trench(0, 2, 99, 50);
        check.due("level -1 at step 2", x.pipe(0, 1, 0), -102);
        check.due("none came", x.many(1), 2);
    }

    private static void pipeTellsTheFirstBareStep() {
        DrainOffice x = land(1, 6);
        x.height(3, 500);
        x.height(5, 500);
        x.trench(0, 5, 600, 1);
        check.due("step 3 ahead of step 5", x.pipe(1, 2, 0), -103);
        x.trench(5, 0, 600, 1);
        check.due("step 0 ahead of step 2", x.pipe(1, 2, 0), -100);
        x.height(5, 2000);
        check.due("step 2", x.pipe(1, 2, 0), -102);
        x.height(3, 658);
        check.due("cover of 60 at step 2", x.pipe(1, 2, 0), 0);
        x.height(0, 654);
        check.due("cover of 59 at step 5", x.pipe(1, 2, 0), -105);
    }

    private static void pipeRefusesInOrder() {
        DrainOffice x = land(1, 2);
        check.due("NUMBER ahead of NONE", x.pipe(4, 1, 0), DrainOffice.NUMBER);
        check.due("NONE", x.pipe(3, 1, 0), DrainOffice.NONE);
        x.trench(0, 1, 2000, 1);
        check.due("NUMBER ahead of COVER", x.pipe(0, 5, 0), DrainOffice.NUMBER);
        check.due("COVER", x.pipe(0, 4, 0), DrainOffice.COVER);
        x.trench(0, 1, 900, 1);
        for (int p = 0; p < 20; p++) {
            check.due("pipe", x.pipe(p % 4, 1, 5), p);
        }
        check.due("FULL", x.pipe(0, 1, 5), DrainOffice.FULL);
        check.due("NUMBER ahead of FULL", x.pipe(2, 1, 0), DrainOffice.NUMBER);
        x.height(1, 0);
        check.due("COVER ahead of FULL", x.pipe(0, 1, 5), DrainOffice.COVER - 1);
    }

    private static void pipeCountsLifeOfMolesAlone() {
        DrainOffice x = land(1, 2);
        x.trench(0, 1, 900, 1);
        check.due("lateral, any life", x.pipe(0, 1, -7), 0);
        check.due("main, any life", x.pipe(1, 1, Integer.MAX_VALUE), 1);
        check.due("outfall, any life", x.pipe(3, 1, 101), 2);
        check.due("mole of 1", x.pipe(2, 1, 1), 3);
        check.due("mole of 100", x.pipe(2, 1, 100), 4);
        check.due("mole of 0", x.pipe(2, 1, 0), DrainOffice.NUMBER);
        check.due("mole of 101", x.pipe(2, 1, 101), DrainOffice.NUMBER);
        int[] life = {0, 0, 0, 1, 100};
        for (int p = 0; p < life.length; p++) {
            check.due("of(" + p + ", 9)", x.of(p, 9), life[p]);
        }
    }

    private static void pipesAreTwentyAtMost() {
        DrainOffice x = land(1, 2);
        x.trench(0, 1, 900, 1);
        for (int p = 0; p < 20; p++) {
            check.due("pipe", x.pipe(1, 1, 0), p);
        }
        check.due("the 21st", x.pipe(1, 1, 0), DrainOffice.FULL);
        check.due("many(1)", x.many(1), 20);
        check.due("of(19, 0)", x.of(19, 0), 1);
        check.due("of(20, 0)", x.of(20, 0), DrainOffice.NUMBER);
    }

    private static void joinGivesTheRank() {
        DrainOffice x = land(1, 2);
        x.trench(0, 1, 900, 1);
        for (int p = 0; p < 20; p++) {
            x.pipe(1, 1, 0);
        }
        // Each main ends on the last step of the next at the same level: 19 leads furthest.
        for (int p = 1; p < 20; p++) {
            check.due("join(p, p - 1)", x.join(p, p - 1), p);
        }
        check.due("RANK of 19", x.of(19, 5), 19);
        check.due("RANK of 0", x.of(0, 5), 0);
        check.due("the ring round all", x.join(0, 19), DrainOffice.RING);
        x.part(10);
        check.due("RANK of 10, parted", x.of(10, 5), 0);
        check.due("RANK of 19 then", x.of(19, 5), 9);
    }

    private static void joinLooksAtKindsAndSteps() {
        DrainOffice x = land(2, 3);
        int lateral = lay(x, 0, 1, 900, 0);
        int main = lay(x, 1, 4, 800, 1);
        int mole = lay(x, 0, 1, 900, 2);
        int outfall = lay(x, 2, 1, 700, 3);
        int far = lay(x, 3, 5, 600, 1);
        check.due("lateral into lateral", x.join(mole, lateral), DrainOffice.KIND);
        check.due("lateral into mole", x.join(lateral, mole), DrainOffice.KIND);
        check.due("lateral into itself", x.join(lateral, lateral), DrainOffice.KIND);
        check.due("outfall into main", x.join(outfall, main), DrainOffice.KIND);
        check.due("outfall into itself", x.join(outfall, outfall), DrainOffice.KIND);
        check.due("last step is none of the main's", x.join(lateral, far), DrainOffice.KIND);
        check.due("lateral into main", x.join(lateral, main), 1);
        check.due("mole into outfall", x.join(mole, outfall), 1);
        check.due("main into main, midway", x.join(main, far), 1);
        check.due("RANK of the lateral", x.of(lateral, 5), 2);
        check.due("leads into the main", x.of(lateral, 6), main);
        check.due("leads into the outfall", x.of(mole, 6), outfall);
    }

    private static void joinLooksAtLevels() {
        DrainOffice x = land(1, 4);
        x.trench(3, 0, 800, 10);
        int main = x.pipe(1, 1, 0);
        x.trench(0, 1, 783, 3);
        int level = x.pipe(0, 1, 0);
        x.trench(0, 1, 782, 3);
        int below = x.pipe(0, 1, 0);
        check.due("level 780 into 780", x.join(level, main), 1);
        check.due("level 779 into 780", x.join(below, main), DrainOffice.HIGH);
        check.due("it leads into nothing", x.of(below, 6), -1);
        check.due("KIND ahead of HIGH", x.join(below, level), DrainOffice.KIND);
    }

    private static void joinRefusesRings() {
        DrainOffice x = land(1, 3);
        x.trench(0, 1, 900, 1);
        x.pipe(1, 1, 0);
        x.pipe(1, 1, 0);
        x.pipe(1, 1, 0);
        check.due("into itself", x.join(0, 0), DrainOffice.RING);
        check.due("join(0, 1)", x.join(0, 1), 1);
        check.due("back into it", x.join(1, 0), DrainOffice.RING);
        check.due("join(1, 2)", x.join(1, 2), 1);
        check.due("back through another", x.join(2, 0), DrainOffice.RING);
        check.due("2 leads into nothing", x.of(2, 6), -1);
        check.due("once more where it leads", x.join(0, 1), 2);
        x.trench(1, 2, 950 - 10, 1);
        x.pipe(1, 1, 0);
        check.due("HIGH ahead of RING", x.join(2, 3), DrainOffice.HIGH);
        DrainOffice y = land(1, 2);
        y.trench(0, 1, 900, 2);
        y.pipe(1, 1, 0);
        y.trench(1, 0, 890, 2);
        y.pipe(1, 1, 0);
        check.due("down", y.join(0, 1), 1);
        check.due("HIGH, though a RING too", y.join(1, 0), DrainOffice.HIGH);
    }

    private static void joinLeadsElsewhereAnew() {
        DrainOffice x = land(1, 2);
        x.trench(0, 1, 900, 1);
        x.pipe(0, 1, 0);
        x.pipe(1, 1, 0);
        x.pipe(3, 1, 0);
        x.join(0, 1);
        check.due("join(0, 2)", x.join(0, 2), 1);
        check.due("leads into 2 alone", x.of(0, 6), 2);
        check.due("join(1, 2)", x.join(1, 2), 1);
        check.due("join(0, 1)", x.join(0, 1), 2);
    }

    private static void openIsForOutfalls() {
        DrainOffice x = land(1, 2);
        x.trench(0, 1, 900, 1);
        for (int kind = 0; kind <= 3; kind++) {
            x.pipe(kind, 1, 9);
        }
        for (int kind = 0; kind <= 2; kind++) {
            check.due("open of KIND " + kind, x.open(kind, 0), DrainOffice.KIND);
            check.due("NUMBER ahead of KIND", x.open(kind, 4), DrainOffice.NUMBER);
            check.due("leads into nothing", x.of(kind, 6), -1);
        }
        for (int ditch = 0; ditch <= 3; ditch++) {
            check.due("open(3, " + ditch + ")", x.open(3, ditch), 1);
            check.due("of(3, 6)", x.of(3, 6), 100 + ditch);
            check.due("of(3, 5)", x.of(3, 5), 0);
        }
        check.due("open(3, 3) again", x.open(3, 3), 1);
    }

    private static void partLeadsIntoNothing() {
        DrainOffice x = land(1, 2);
        x.trench(0, 1, 900, 1);
        x.pipe(0, 1, 0);
        x.pipe(3, 1, 0);
        check.due("part of a new one", x.part(0), 0);
        x.join(0, 1);
        x.open(1, 0);
        check.due("part(0)", x.part(0), 1);
        check.due("part(0) again", x.part(0), 0);
        check.due("of(0, 6)", x.of(0, 6), -1);
        check.due("of(0, 5)", x.of(0, 5), 0);
        check.due("part(1), from a ditch", x.part(1), 1);
        check.due("of(1, 6)", x.of(1, 6), -1);
        check.due("part(1) again", x.part(1), 0);
        check.due("part(2)", x.part(2), DrainOffice.NUMBER);
    }

    private static void blockChangesOrNot() {
        DrainOffice x = land(1, 2);
        x.trench(0, 1, 900, 1);
        x.pipe(0, 1, 0);
        x.pipe(0, 1, 0);
        check.due("not blocked already", x.block(0, false), 0);
        check.due("block(0)", x.block(0, true), 1);
        check.due("block(0) again", x.block(0, true), 0);
        check.due("of(0, 7)", x.of(0, 7), 1);
        check.due("of(1, 7)", x.of(1, 7), 0);
        check.due("many(6)", x.many(6), 1);
        check.due("unblock(0)", x.block(0, false), 1);
        check.due("of(0, 7)", x.of(0, 7), 0);
        check.due("many(6)", x.many(6), 0);
        check.due("block(2)", x.block(2, true), DrainOffice.NUMBER);
        check.due("block(-1)", x.block(-1, true), DrainOffice.NUMBER);
    }

    private static void ofBearsAndHolds() {
        DrainOffice x = land(6, 1);
        x.trench(0, 5, 500, 50);
        x.pipe(3, 4, 0);
        int[] wide = {3, 6, 4, 880, 960, 0, -1, 0, 0, 0, 0, 0};
        x.trench(0, 1, 500, 1);
        x.pipe(2, 1, 77);
        int[] narrow = {2, 2, 1, 6, 80, 0, -1, 0, 0, 77, 0, 0};
        x.trench(0, 2, 500, 7);
        x.pipe(0, 3, 0);
        int[] third = {0, 3, 3, 108, 360, 0, -1, 0, 0, 0, 0, 0};
        for (int what = 0; what <= 11; what++) {
            check.due("of(0, " + what + ")", x.of(0, what), wide[what]);
            check.due("of(1, " + what + ")", x.of(1, what), narrow[what]);
            check.due("of(2, " + what + ")", x.of(2, what), third[what]);
        }
        check.due("of(0, 12)", x.of(0, 12), DrainOffice.NUMBER);
        check.due("of(0, -1)", x.of(0, -1), DrainOffice.NUMBER);
    }

    private static void ofPeak() {
        DrainOffice x = land(1, 2);
        x.trench(0, 1, 900, 5);
        x.pipe(1, 2, 0);
        x.pipe(0, 1, 0);
        x.pipe(0, 1, 0);
        x.pipe(0, 2, 0);
        check.due("none leads into it", x.of(0, 10), 0);
        x.join(1, 0);
        check.due("10 of 40", x.of(0, 10), 10);
        x.join(2, 0);
        x.block(2, true);
        check.due("20 of 40, blocked ones too", x.of(0, 10), 20);
        x.join(3, 0);
        check.due("60, not more than 40", x.of(0, 10), 40);
        check.due("of a lateral", x.of(3, 10), 0);
        x.part(3);
        check.due("20 again", x.of(0, 10), 20);
        DrainOffice y = land(1, 2);
        y.trench(0, 1, 900, 5);
        y.pipe(0, 1, 0);
        y.pipe(3, 2, 0);
        y.join(0, 1);
        check.due("pipe 0 leads into it", y.of(1, 10), 10);
        y.open(1, 0);
        check.due("a ditch is no pipe", y.of(0, 10), 0);
    }

    private static void stepGoesBothWays() {
        DrainOffice x = land(3, 4);
        x.trench(11, 8, 900, 10);
        x.pipe(0, 1, 0);
        x.trench(9, 1, 800, 20);
        x.pipe(0, 1, 0);
        x.height(5, 760);
        int[] places = {11, 10, 9, 8};
        for (int k = 0; k < places.length; k++) {
            check.due("place of step " + k, x.step(0, k, 0), places[k]);
            check.due("level of step " + k, x.step(0, k, 1), 900 - 10 * k);
            check.due("cover of step " + k, x.step(0, k, 2), 100 + 10 * k);
        }
        check.due("place of step 1", x.step(1, 1, 0), 5);
        check.due("place of step 2", x.step(1, 2, 0), 1);
        check.due("cover below 0", x.step(1, 1, 2), -20);
        check.due("no step 4", x.step(0, 4, 0), -10000);
        check.due("no step -1", x.step(0, -1, 0), -10000);
        check.due("no pipe 2", x.step(2, 0, 0), -10000);
        check.due("no pipe -1", x.step(-1, 0, 0), -10000);
        check.due("no what 3", x.step(0, 0, 3), -10000);
        check.due("no what -1", x.step(0, 0, -1), -10000);
    }
}
