/** Terms 1: the least and the most of each number of the ground and of pipes, and how many there may be. */
public final class TermsGroundTest {
    private static final int NUMBER = DrainOffice.NUMBER;
    private static final int KIND = DrainOffice.KIND;
    private static final Check check = new Check();

    public static void main(String[] args) {
        rowsAndColumnsAreOneToSix();
        placesAreNumberedRowByRow();
        heightsAreUpToTwoThousand();
        soilsOfPlacesAreNoughtToThree();
        soilsHaveTheirBounds();
        ditchesHaveTheirBounds();
        pipesAreTwentyAtMost();
        pipesGoAlongOneRowOrColumn();
        stepsAreTwoAtLeast();
        fallIsOneToFifty();
        widthIsOneToFour();
        levelGoesDownByFall();
        coverIsSixtyAtLeast();
        coverIsLookedAtOnEachStep();
        levelIsNoughtAtLeast();
        bearsTheLeastAndTheMost();
        holdsTheLeastAndTheMost();
        kindsAreFour();
        molesLiveOneToAHundredHours();
        outfallsAloneLeadIntoDitches();
        outfallsAreMainsToo();
        molesAreLateralsToo();
        pipesLeadIntoOneThing();
        rankIsNoughtWithoutAPipe();
        rankIsOneMore();
        check.finish();
    }

    private static void rowsAndColumnsAreOneToSix() {
        check.sentence("Terms 1: ROWS and COLUMNS of PLACES (1 to 6 each)");
        for (int n = 1; n <= 6; n++) {
            DrainOffice x = new DrainOffice();
            check.due("land(" + n + ", 1)", x.land(n, 1), n);
            check.due("land(1, " + n + ")", x.land(1, n), n);
            check.due("land(" + n + ", 6)", x.land(n, 6), 6 * n);
            check.due("land(6, " + n + ")", x.land(6, n), 6 * n);
        }
        for (int n : new int[] {0, 7, -1, Integer.MIN_VALUE, Integer.MAX_VALUE}) {
            DrainOffice x = new DrainOffice();
            for (int good = 1; good <= 6; good++) {
                check.due("land(" + n + ", " + good + ")", x.land(n, good), NUMBER);
                check.due("land(" + good + ", " + n + ")", x.land(good, n), NUMBER);
            }
            check.due("still one PLACE", x.many(0), 1);
        }
    }

    private static void placesAreNumberedRowByRow() {
        check.sentence("Terms 1: numbered row by row from 0 on");
        DrainOffice x = Offices.land(6, 6);
        check.due("first ROW", x.trench(0, 5, 900, 1), 6);
        check.due("last ROW", x.trench(30, 35, 900, 1), 6);
        check.due("first COLUMN", x.trench(0, 30, 900, 1), 6);
        check.due("last COLUMN", x.trench(5, 35, 900, 1), 6);
        check.due("from one ROW's end to the next one's start", x.trench(5, 6, 900, 1), NUMBER);
        check.due("the last place", x.at(35, 0), 1000);
        check.due("none behind it", x.at(36, 0), NUMBER);
        DrainOffice y = Offices.land(2, 5);
        check.due("5 is below 0", y.trench(0, 5, 900, 1), 2);
        check.due("5 is not beside 4", y.trench(4, 5, 900, 1), NUMBER);
        check.due("9 is below 4", y.trench(4, 9, 900, 1), 2);
        check.due("9 is not below 3", y.trench(3, 9, 900, 1), NUMBER);
    }

    private static void heightsAreUpToTwoThousand() {
        check.sentence("Terms 1: each has a HEIGHT (0 to 2000)");
        DrainOffice x = Offices.land(2, 2);
        check.ends("height(3, ..)", 0, 2000, n -> x.height(3, n), 1, NUMBER);
        check.due("the last one that might be", x.at(3, 0), 2000);
        x.height(3, 0);
        check.due("the least one", x.at(3, 0), 0);
        check.due("height(3, -1)", x.height(3, -1), NUMBER);
        check.due("it stays", x.at(3, 0), 0);
    }

    private static void soilsOfPlacesAreNoughtToThree() {
        check.sentence("Terms 1: and a SOIL 0 to 3");
        DrainOffice x = Offices.land(2, 2);
        check.ends("soil(3, ..)", 0, 3, n -> x.soil(3, n), 1, NUMBER);
        check.due("the last one that might be", x.at(3, 1), 3);
        check.ends("soils(.., 0, 0, 0, 0)", 0, 3, n -> x.soils(n, 0, 0, 0, 0), 1, NUMBER);
    }

    private static void soilsHaveTheirBounds() {
        DrainOffice x = Offices.land(1, 1);
        check.sentence("Terms 1: A SOIL TAKES (0 to 200)");
        check.ends("takes", 0, 200, n -> x.soils(0, n, 0, 0, 0), 1, NUMBER);
        check.sentence("Terms 1: GIVES (0 to 100)");
        check.ends("gives", 0, 100, n -> x.soils(1, 0, n, 0, 0), 1, NUMBER);
        check.sentence("Terms 1: KEEPS (0 to 1000)");
        check.ends("keeps", 0, 1000, n -> x.soils(2, 0, 0, n, 0), 1, NUMBER);
        check.sentence("Terms 1: REACHES (0 to 40)");
        check.ends("reaches", 0, 40, n -> x.soils(3, 0, 0, 0, n), 1, NUMBER);
    }

    private static void ditchesHaveTheirBounds() {
        check.sentence("Terms 1: DITCHES 0 to 3 have LEVELS (0 to 2000)");
        DrainOffice x = new DrainOffice();
        check.ends("ditch(.., 5)", 0, 3, n -> x.ditch(n, 5), 1, NUMBER);
        for (int ditch = 0; ditch < 4; ditch++) {
            int d = ditch;
            check.ends("ditch(" + d + ", ..)", 0, 2000, n -> x.ditch(d, n), 1, NUMBER);
        }
    }

    private static void pipesAreTwentyAtMost() {
        check.sentence("Terms 1: PIPES are numbered from 0, as they come, 20 at most");
        DrainOffice x = Offices.land(1, 2);
        check.due("none at first", x.of(0, 0), NUMBER);
        x.trench(0, 1, 900, 1);
        for (int p = 0; p < 20; p++) {
            check.due("pipe " + p, x.pipe(p % 4, 1, 7), p);
            check.due("its KIND", x.of(p, 0), p % 4);
            check.due("none behind it", x.of(p + 1, 0), NUMBER);
        }
        check.due("one more", x.pipe(0, 1, 7), DrainOffice.FULL);
        check.due("how many", x.many(1), 20);
        x.land(1, 2);
        x.trench(0, 1, 900, 1);
        check.due("from 0 again on a new land", x.pipe(0, 1, 0), 0);
    }

    private static void pipesGoAlongOneRowOrColumn() {
        check.sentence("Terms 1: from one PLACE to another one in the same ROW, or COLUMN");
        DrainOffice x = Offices.land(3, 3);
        int[] fromTheMiddle = {NUMBER, 2, NUMBER, 2, NUMBER, 2, NUMBER, 2, NUMBER};
        int[] fromTheCorner = {NUMBER, 2, 3, 2, NUMBER, NUMBER, 3, NUMBER, NUMBER};
        for (int b = 0; b < 9; b++) {
            check.due("from 4 to " + b, x.trench(4, b, 900, 1), fromTheMiddle[b]);
            check.due("from " + b + " to 4", x.trench(b, 4, 900, 1), fromTheMiddle[b]);
            check.due("from 0 to " + b, x.trench(0, b, 900, 1), fromTheCorner[b]);
            check.due("from " + b + " to 0", x.trench(b, 0, 900, 1), fromTheCorner[b]);
        }
    }

    private static void stepsAreTwoAtLeast() {
        check.sentence("Terms 1: its STEPS are the PLACES from the one to the other, numbered from 0 (two at least)");
        DrainOffice x = Offices.land(6, 6);
        check.due("one would be too few", x.trench(14, 14, 900, 1), NUMBER);
        check.due("two", x.trench(14, 15, 900, 1), 2);
        x.pipe(0, 1, 0);
        check.due("step -1", x.step(0, -1, 0), -10000);
        check.due("step 0", x.step(0, 0, 0), 14);
        check.due("step 1", x.step(0, 1, 0), 15);
        check.due("step 2", x.step(0, 2, 0), -10000);
        check.due("six", x.trench(35, 5, 900, 1), 6);
        x.pipe(0, 1, 0);
        for (int k = 0; k < 6; k++) {
            check.due("step " + k, x.step(1, k, 0), 35 - 6 * k);
        }
        check.due("step 6", x.step(1, 6, 0), -10000);
    }

    private static void fallIsOneToFifty() {
        check.sentence("Terms 1: a FALL (1 to 50)");
        DrainOffice x = Offices.land(1, 2);
        check.ends("trench(0, 1, 900, ..)", 1, 50, n -> x.trench(0, 1, 900, n), 2, NUMBER);
        x.pipe(1, 1, 0);
        check.due("FALL 50 is in hand", x.step(0, 1, 1), 850);
    }

    private static void widthIsOneToFour() {
        check.sentence("Terms 1: a WIDTH (1 to 4)");
        for (int kind = 0; kind < 4; kind++) {
            int k = kind;
            check.ends("pipe(" + k + ", .., 1)", 1, 4, n -> pipeOfWidth(k, n), 0, NUMBER);
        }
    }

    private static int pipeOfWidth(int kind, int width) {
        DrainOffice x = Offices.land(1, 2);
        x.trench(0, 1, 900, 1);
        int answer = x.pipe(kind, width, 1);
        if (answer == 0) {
            check.due("its WIDTH", x.of(0, 2), width);
        }
        return answer;
    }

    private static void levelGoesDownByFall() {
        check.sentence("Terms 1: its LEVEL at step k is that at step 0 less k times FALL");
        DrainOffice x = Offices.land(1, 6);
        Offices.lay(x, 5, 0, 940, 1, Offices.MAIN);
        Offices.lay(x, 0, 5, 250, 50, Offices.MAIN);
        for (int k = 0; k < 6; k++) {
            check.due("FALL 1, step " + k, x.step(0, k, 1), 940 - k);
            check.due("FALL 50, step " + k, x.step(1, k, 1), 250 - 50 * k);
        }
    }

    private static void coverIsSixtyAtLeast() {
        check.sentence("Terms 1: HEIGHT less LEVEL is 60 at least");
        DrainOffice x = Offices.land(1, 2);
        check.due("60", Offices.lay(x, 0, 1, 940, 1, Offices.LATERAL), 0);
        check.due("its COVER", x.step(0, 0, 2), 60);
        check.due("59", Offices.lay(x, 0, 1, 941, 1, Offices.LATERAL), -100);
        x.height(0, 2000);
        x.height(1, 2000);
        check.due("60 of the greatest HEIGHT", Offices.lay(x, 0, 1, 1940, 1, Offices.LATERAL), 1);
        check.due("59 of it", Offices.lay(x, 0, 1, 1941, 1, Offices.LATERAL), -100);
        check.due("0 of it", Offices.lay(x, 0, 1, 2000, 1, Offices.LATERAL), -100);
        x.height(1, 1998);
        check.due("59 at the last step alone", Offices.lay(x, 0, 1, 1940, 1, Offices.LATERAL), -101);
        x.height(1, 1999);
        check.due("60 there", Offices.lay(x, 0, 1, 1940, 1, Offices.LATERAL), 2);
        x.height(0, 0);
        check.due("below 0", Offices.lay(x, 0, 1, 2000, 1, Offices.LATERAL), -100);
    }

    private static void coverIsLookedAtOnEachStep() {
        check.sentence("Terms 1: There must be COVER at each step");
        for (int k = 0; k < 6; k++) {
            DrainOffice x = Offices.land(1, 6);
            x.height(k, 659 - 10 * k);
            check.due("59 at step " + k, Offices.lay(x, 0, 5, 600, 10, Offices.MAIN), -100 - k);
            x.height(k, 660 - 10 * k);
            check.due("60 at step " + k, Offices.lay(x, 0, 5, 600, 10, Offices.MAIN), 0);
        }
    }

    private static void levelIsNoughtAtLeast() {
        check.sentence("Terms 1: and the LEVEL 0 at least");
        DrainOffice x = Offices.land(1, 6);
        check.due("0 at the last step", Offices.lay(x, 0, 5, 250, 50, Offices.MAIN), 0);
        check.due("its LEVEL", x.step(0, 5, 1), 0);
        check.due("-1 at the last step", Offices.lay(x, 0, 5, 249, 50, Offices.MAIN), -105);
        check.due("-1 at step 2", Offices.lay(x, 0, 5, 99, 50, Offices.MAIN), -102);
        check.due("0 at step 0, -1 at step 1", Offices.lay(x, 0, 5, 0, 1, Offices.MAIN), -101);
        check.due("0 at step 1 of two", Offices.lay(x, 0, 1, 1, 1, Offices.MAIN), 1);
        x.height(1, 60);
        check.due("LEVEL 0 and COVER 60", Offices.lay(x, 0, 1, 1, 1, Offices.MAIN), 2);
        x.height(1, 59);
        check.due("LEVEL 0 and COVER 59", Offices.lay(x, 0, 1, 1, 1, Offices.MAIN), -101);
    }

    private static void bearsTheLeastAndTheMost() {
        check.sentence("Terms 1: It BEARS WIDTH times WIDTH times (FALL and 5)");
        DrainOffice x = Offices.land(1, 6);
        for (int width = 1; width <= 4; width++) {
            check.due("FALL 1", x.of(Offices.layWide(x, 0, 1, 900, 1, 0, width), 3), width * width * 6);
            check.due("FALL 50", x.of(Offices.layWide(x, 0, 5, 900, 50, 3, width), 3), width * width * 55);
        }
    }

    private static void holdsTheLeastAndTheMost() {
        check.sentence("Terms 1: it HOLDS 40 times WIDTH times how many STEPS it has");
        DrainOffice x = Offices.land(1, 6);
        check.due("the least", x.of(Offices.layWide(x, 0, 1, 900, 9, 0, 1), 4), 80);
        check.due("wide", x.of(Offices.layWide(x, 0, 1, 900, 9, 1, 4), 4), 320);
        check.due("long", x.of(Offices.layWide(x, 5, 0, 900, 9, 2, 1), 4), 240);
        check.due("the most", x.of(Offices.layWide(x, 5, 0, 900, 9, 3, 4), 4), 960);
    }

    private static void kindsAreFour() {
        check.sentence("Terms 1: KINDS: 0 LATERAL, 1 MAIN, 2 MOLE, 3 OUTFALL");
        DrainOffice x = Offices.land(1, 2);
        x.trench(0, 1, 900, 1);
        for (int kind = 0; kind < 4; kind++) {
            check.due("pipe(" + kind + ", 1, 1)", x.pipe(kind, 1, 1), kind);
            check.due("its KIND", x.of(kind, 0), kind);
        }
        check.due("no KIND -1", x.pipe(-1, 1, 1), NUMBER);
        check.due("no KIND 4", x.pipe(4, 1, 1), NUMBER);
    }

    private static void molesLiveOneToAHundredHours() {
        check.sentence("Terms 1: 2 MOLE (a LATERAL, too, with a LIFE of 1 to 100 hours)");
        check.ends("LIFE", 1, 100, n -> pipeOfLife(Offices.MOLE, n, n), 0, NUMBER);
        for (int life : new int[] {0, 101, -1, Integer.MIN_VALUE, Integer.MAX_VALUE}) {
            for (int kind : new int[] {Offices.LATERAL, Offices.MAIN, Offices.OUTFALL}) {
                check.due("others have no LIFE", pipeOfLife(kind, life, 0), 0);
            }
        }
    }

    private static int pipeOfLife(int kind, int life, int told) {
        DrainOffice x = Offices.land(1, 2);
        x.trench(0, 1, 900, 1);
        int answer = x.pipe(kind, 1, life);
        if (answer == 0) {
            check.due("its LIFE", x.of(0, 9), told);
        }
        return answer;
    }

    private static void outfallsAloneLeadIntoDitches() {
        check.sentence("Terms 1: INTO another one, a DITCH (an OUTFALL alone), or nothing");
        DrainOffice x = Offices.land(1, 2);
        x.trench(0, 1, 900, 1);
        for (int kind = 0; kind < 4; kind++) {
            x.pipe(kind, 1, 9);
            check.due("nothing at first", x.of(kind, 6), -1);
            check.due("open of KIND " + kind, x.open(kind, 3), kind == 3 ? 1 : KIND);
            check.due("of(" + kind + ", 6)", x.of(kind, 6), kind == 3 ? 103 : -1);
        }
        check.due("an outfall leads into no main", x.join(3, 1), KIND);
    }

    private static void outfallsAreMainsToo() {
        check.sentence("Terms 1: 3 OUTFALL (a MAIN, too)");
        DrainOffice x = Offices.land(1, 2);
        x.trench(0, 1, 900, 1);
        for (int kind = 0; kind < 4; kind++) {
            x.pipe(kind, 1, 9);
        }
        check.due("a lateral into an outfall", x.join(0, 3), 1);
        check.due("a main into an outfall", x.join(1, 3), 1);
        check.due("a mole into an outfall", x.join(2, 3), 1);
        check.due("a mole into a main", x.join(2, 1), 2);
        check.due("a main into a lateral", x.join(1, 0), KIND);
        check.due("a main into a mole", x.join(1, 2), KIND);
    }

    private static void molesAreLateralsToo() {
        check.sentence("Terms 1: 2 MOLE (a LATERAL, too)");
        DrainOffice x = Offices.thirsty(1, 2);
        Offices.lay(x, 0, 1, 900, 1, Offices.MAIN);
        Offices.lay(x, 0, 1, 900, 1, Offices.OUTFALL);
        check.due("mains and outfalls reach nothing", x.many(3), 2);
        Offices.lay(x, 0, 1, 900, 1, Offices.MOLE);
        check.due("a mole reaches", x.many(3), 0);
        x.rain(0, 10);
        x.hours(1);
        check.due("nothing goes into a main", x.of(0, 8), 0);
        check.due("nothing goes into an outfall", x.of(1, 8), 0);
        check.due("water goes into a mole", x.of(2, 8), 10);
    }

    private static void pipesLeadIntoOneThing() {
        check.sentence("Terms 1: A PIPE leads INTO another one, a DITCH, or nothing");
        DrainOffice x = Offices.land(1, 2);
        x.trench(0, 1, 900, 1);
        x.pipe(0, 1, 0);
        x.pipe(1, 1, 0);
        x.pipe(3, 1, 0);
        x.join(0, 1);
        x.join(0, 2);
        check.due("the latest alone", x.of(0, 6), 2);
        check.due("PEAK of the first", x.of(1, 10), 0);
        x.open(2, 0);
        x.open(2, 3);
        check.due("the latest DITCH alone", x.of(2, 6), 103);
        check.due("part", x.part(2), 1);
        check.due("nothing", x.of(2, 6), -1);
    }

    private static void rankIsNoughtWithoutAPipe() {
        check.sentence("Terms 1: RANK of a PIPE: 0 if it leads INTO a DITCH or nothing");
        DrainOffice x = Offices.land(1, 2);
        x.trench(0, 1, 900, 1);
        for (int kind = 0; kind < 4; kind++) {
            x.pipe(kind, 1, 9);
            check.due("into nothing, KIND " + kind, x.of(kind, 5), 0);
        }
        for (int ditch = 0; ditch < 4; ditch++) {
            x.open(3, ditch);
            check.due("into DITCH " + ditch, x.of(3, 5), 0);
        }
    }

    private static void rankIsOneMore() {
        check.sentence("Terms 1: else one more than that of the PIPE INTO which it leads");
        DrainOffice x = Offices.land(1, 2);
        x.trench(0, 1, 900, 1);
        for (int p = 0; p < 20; p++) {
            x.pipe(1, 1, 0);
        }
        check.due("into one of RANK 0", x.join(0, 1), 1);
        for (int p = 1; p < 19; p++) {
            check.due("join(" + p + ", " + (p + 1) + ")", x.join(p, p + 1), 1);
            check.due("RANK of 0 grows", x.of(0, 5), p + 1);
        }
        check.due("the greatest RANK", x.of(0, 5), 19);
        check.due("no ring of twenty", x.join(19, 0), DrainOffice.RING);
        x.part(18);
        check.due("RANK of 0 then", x.of(0, 5), 18);
        check.due("RANK of 19 then", x.of(19, 5), 0);
    }
}
