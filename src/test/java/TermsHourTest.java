/** Terms 2: where water is, and what AN HOUR does, in its order and with its bounds. */
public final class TermsHourTest {
    private static final Check check = new Check();

    public static void main(String[] args) {
        noWaterAtFirst();
        rainIsUpToThreeHundred();
        rainStaysTillToldAnew();
        rainFallsAheadOfAll();
        soilTakesNoMoreThanItTakes();
        whatStandsGoesInLater();
        soilKeepsNoMore();
        soilMoreWetAlreadyTakesNothing();
        placesComeByNumbers();
        lateralsComeByNumbers();
        everyStepGives();
        wholePartGoesIntoALateral();
        blockedLateralsTakeNothing();
        molesThatAreOverTakeNothing();
        lateralsHoldNoMore();
        fullLateralsTakeNothing();
        leastRankPassesOnFirst();
        oneRankPassesOnByNumbers();
        rankCountsAheadOfNumbers();
        blockedPipesPassOnNothing();
        nothingPassesIntoNothing();
        flapIsShutBelowTheDitch();
        flapGoesByTheLastStep();
        passesOnAllThatIsInIt();
        passesOnWhatItBears();
        passesOnWhatThePipeHolds();
        blockedPipesAreStillPassedInto();
        ditchesTakeAnyAmount();
        lifeIsLessByOne();
        lifeEndsBehindTheLastHour();
        check.finish();
    }

    private static void noWaterAtFirst() {
        check.sentence("Terms 2: WATER is on PLACES, in their soil, in PIPES, and GONE; none at first");
        DrainOffice x = Offices.drained();
        for (int hours : new int[] {1, 50}) {
            check.due("hours(" + hours + ")", x.hours(hours), 0);
            for (int what = 0; what <= 7; what++) {
                check.due("all(" + what + ")", x.all(what), 0);
            }
        }
        x.rain(-1, 300);
        x.hours(50);
        for (int p = 2; p < 20; p++) {
            x.pipe(p % 4, 4, 1);
            check.due("in a new PIPE", x.of(p, 8), 0);
        }
    }

    private static void rainIsUpToThreeHundred() {
        check.sentence("Terms 2: RAIN of each PLACE (0 to 300)");
        DrainOffice x = Offices.land(2, 2);
        check.ends("rain(3, ..)", 0, 300, n -> x.rain(3, n), 1, DrainOffice.NUMBER);
        check.ends("rain(-1, ..)", 0, 300, n -> x.rain(-1, n), 1, DrainOffice.NUMBER);
        check.due("the most on all", x.all(7), 0);
        x.hours(1);
        check.due("four times the most", x.all(7), 1200);
        x.rain(-1, 0);
        x.hours(1);
        check.due("and no more at the least", x.all(7), 1200);
    }

    private static void rainStaysTillToldAnew() {
        check.sentence("Terms 2: it stays till it is told anew");
        DrainOffice x = Offices.drained();
        x.rain(1, 3);
        x.hours(50);
        x.height(1, 2000);
        x.soil(1, 2);
        x.block(0, true);
        x.part(0);
        x.hours(1);
        check.due("still as it was told", x.at(1, 4), 3);
        check.due("51 hours of 3", x.all(7), 153);
        x.rain(0, 1);
        check.due("another PLACE is another", x.at(1, 4), 3);
        x.rain(1, 4);
        x.hours(2);
        check.due("told anew", x.all(7), 153 + 10);
    }

    private static void rainFallsAheadOfAll() {
        check.sentence("Terms 2: first what STANDS on each PLACE is more by its RAIN. Then .. Then ..");
        DrainOffice x = Offices.drained();
        x.rain(0, 50);
        check.due("the outfall passed on ahead of the lateral", x.hours(1), 0);
        check.due("all that fell went into the soil in that hour", x.at(0, 2), 0);
        check.due("and out of it in that hour", x.at(0, 3), 0);
        check.due("and 6 of it further in that hour", x.of(0, 8), 44);
        check.due("which are in the outfall", x.of(1, 8), 6);
    }

    /** One PLACE whose soil is as told, behind an hour with so much RAIN. */
    private static DrainOffice rained(int takes, int keeps, int rain) {
        DrainOffice x = Offices.land(1, 1);
        x.soils(0, takes, 0, keeps, 0);
        x.rain(0, rain);
        x.hours(1);
        x.rain(0, 0);
        return x;
    }

    private static void dueAt(DrainOffice x, int stands, int wet) {
        check.due("STANDS", x.at(0, 2), stands);
        check.due("WET", x.at(0, 3), wet);
    }

    private static void soilTakesNoMoreThanItTakes() {
        check.sentence("Terms 2: as much of what STANDS as its SOIL TAKES goes into the soil");
        dueAt(rained(50, 1000, 0), 0, 0);
        dueAt(rained(50, 1000, 49), 0, 49);
        dueAt(rained(50, 1000, 50), 0, 50);
        dueAt(rained(50, 1000, 51), 1, 50);
        dueAt(rained(200, 1000, 199), 0, 199);
        dueAt(rained(200, 1000, 201), 1, 200);
        dueAt(rained(200, 1000, 300), 100, 200);
        dueAt(rained(1, 1000, 300), 299, 1);
        dueAt(rained(0, 1000, 300), 300, 0);
    }

    private static void whatStandsGoesInLater() {
        check.sentence("Terms 2: as much of what STANDS (not of the RAIN alone)");
        DrainOffice x = rained(50, 1000, 120);
        dueAt(x, 70, 50);
        x.hours(1);
        dueAt(x, 20, 100);
        x.hours(1);
        dueAt(x, 0, 120);
        x.hours(50);
        dueAt(x, 0, 120);
    }

    private static void soilKeepsNoMore() {
        check.sentence("Terms 2: but only as long as it is not more WET than the SOIL KEEPS");
        dueAt(rained(200, 100, 99), 0, 99);
        dueAt(rained(200, 100, 100), 0, 100);
        dueAt(rained(200, 100, 101), 1, 100);
        dueAt(rained(200, 0, 1), 1, 0);
        dueAt(rained(200, 1, 2), 1, 1);
        DrainOffice x = rained(200, 1000, 300);
        x.rain(0, 300);
        x.hours(3);
        dueAt(x, 400, 800);
        x.hours(1);
        dueAt(x, 500, 1000);
        x.hours(1);
        dueAt(x, 800, 1000);
        DrainOffice y = rained(60, 100, 99);
        dueAt(y, 39, 60);
        y.rain(0, 10);
        y.hours(1);
        dueAt(y, 9, 100);
        y.hours(1);
        dueAt(y, 19, 100);
    }

    private static void soilMoreWetAlreadyTakesNothing() {
        check.sentence("Terms 2: (nothing if it is more so already)");
        DrainOffice x = rained(200, 100, 150);
        dueAt(x, 50, 100);
        x.soils(0, 200, 0, 99, 0);
        x.hours(1);
        dueAt(x, 50, 100);
        x.soils(0, 200, 0, 0, 0);
        x.hours(1);
        dueAt(x, 50, 100);
        x.soils(0, 200, 0, 101, 0);
        x.hours(1);
        dueAt(x, 49, 101);
        x.soils(1, 200, 0, 60, 0);
        x.soil(0, 1);
        x.hours(1);
        dueAt(x, 49, 101);
    }

    private static void placesComeByNumbers() {
        check.sentence("Terms 2: Then, PLACE by PLACE");
        for (int way = 0; way < 2; way++) {
            DrainOffice x = Offices.thirsty(1, 3);
            Offices.lay(x, way == 0 ? 0 : 2, way == 0 ? 2 : 0, 900, 1, Offices.LATERAL);
            x.rain(-1, 50);
            x.hours(1);
            check.due("PLACE 0 gives all", x.at(0, 3), 0);
            check.due("PLACE 1 gives all", x.at(1, 3), 0);
            check.due("PLACE 2 gives what there is room for", x.at(2, 3), 30);
        }
        DrainOffice y = Offices.thirsty(3, 1);
        Offices.lay(y, 2, 1, 900, 1, Offices.MOLE);
        y.rain(-1, 70);
        y.hours(1);
        check.due("no step: PLACE 0 gives nothing", y.at(0, 3), 70);
        check.due("PLACE 1 gives all", y.at(1, 3), 0);
        check.due("PLACE 2 gives 10", y.at(2, 3), 60);
    }

    private static void lateralsComeByNumbers() {
        check.sentence("Terms 2: for each LATERAL that has it as a step, by numbers");
        DrainOffice x = Offices.land(1, 2);
        x.soils(0, 200, 50, 1000, 0);
        Offices.lay(x, 1, 0, 800, 1, Offices.MOLE);
        Offices.lay(x, 0, 1, 900, 1, Offices.LATERAL);
        Offices.lay(x, 0, 1, 700, 1, Offices.LATERAL);
        x.rain(1, 100);
        x.hours(1);
        check.due("50 of 100", x.of(0, 8), 50);
        check.due("25 of the 50 left", x.of(1, 8), 25);
        check.due("12 of the 25 left", x.of(2, 8), 12);
        check.due("what is left", x.at(1, 3), 13);
    }

    private static void everyStepGives() {
        check.sentence("Terms 2: for each LATERAL that has it as a step (the first and the last, too)");
        DrainOffice x = Offices.thirsty(6, 6);
        Offices.layWide(x, 31, 1, 900, 1, Offices.LATERAL, 4);
        x.rain(-1, 1);
        x.hours(1);
        check.due("one of each step", x.of(0, 8), 6);
        for (int place = 0; place < 36; place++) {
            check.due("WET at " + place, x.at(place, 3), place % 6 == 1 ? 0 : 1);
        }
    }

    private static void wholePartGoesIntoALateral() {
        check.sentence("Terms 2: the whole part of (how WET the PLACE is times what its SOIL GIVES, by 100)");
        int[][] cases = {{1, 99, 0}, {1, 100, 1}, {2, 49, 0}, {2, 50, 1}, {3, 33, 0}, {3, 34, 1}, {4, 25, 1},
            {99, 1, 0}, {100, 1, 1}, {199, 1, 1}, {200, 1, 2}, {200, 0, 0}, {101, 99, 99}, {200, 100, 200}};
        for (int[] one : cases) {
            DrainOffice x = Offices.land(1, 2);
            x.soils(0, 200, one[1], 1000, 0);
            Offices.layWide(x, 0, 1, 900, 1, Offices.LATERAL, 4);
            x.rain(0, one[0]);
            x.hours(1);
            String name = one[0] + " times " + one[1] + " by 100";
            check.due(name, x.of(0, 8), one[2]);
            check.due("the rest of " + name, x.at(0, 3), one[0] - one[2]);
        }
    }

    private static void blockedLateralsTakeNothing() {
        check.sentence("Terms 2: if that isn't BLOCKED");
        DrainOffice x = Offices.thirsty(1, 2);
        Offices.lay(x, 0, 1, 900, 1, Offices.LATERAL);
        Offices.lay(x, 0, 1, 900, 1, Offices.MOLE);
        x.rain(0, 10);
        x.block(0, true);
        x.hours(1);
        check.due("nothing into the blocked one", x.of(0, 8), 0);
        check.due("all into the next", x.of(1, 8), 10);
        x.block(1, true);
        x.hours(1);
        check.due("nothing into either", x.all(2), 10);
        check.due("it stays in the soil", x.at(0, 3), 10);
        x.block(0, false);
        x.hours(1);
        check.due("all into the one that isn't", x.of(0, 8), 20);
    }

    private static void molesThatAreOverTakeNothing() {
        check.sentence("Terms 2: and no MOLE whose LIFE is over");
        DrainOffice x = Offices.thirsty(1, 2);
        x.trench(0, 1, 900, 1);
        x.pipe(2, 1, 1);
        x.pipe(2, 1, 2);
        x.pipe(0, 1, 0);
        x.rain(0, 10);
        int[][] inside = {{10, 0, 0}, {10, 10, 0}, {10, 10, 10}, {10, 10, 20}};
        for (int hour = 0; hour < inside.length; hour++) {
            x.hours(1);
            for (int p = 0; p < 3; p++) {
                check.due("in PIPE " + p + " behind hour " + hour, x.of(p, 8), inside[hour][p]);
            }
        }
    }

    private static void lateralsHoldNoMore() {
        check.sentence("Terms 2: at most as much as it HOLDS less what is in it");
        for (int rain : new int[] {79, 80, 81, 200}) {
            DrainOffice x = Offices.thirsty(1, 2);
            Offices.lay(x, 0, 1, 900, 1, Offices.LATERAL);
            x.rain(0, rain);
            x.hours(1);
            check.due("in it of " + rain, x.of(0, 8), Math.min(rain, 80));
            check.due("left of " + rain, x.at(0, 3), Math.max(0, rain - 80));
        }
    }

    private static void fullLateralsTakeNothing() {
        check.sentence("Terms 2: HOLDS less what is in it (here 1, then 0)");
        DrainOffice x = Offices.thirsty(1, 2);
        Offices.lay(x, 0, 1, 900, 1, Offices.LATERAL);
        x.rain(0, 79);
        x.hours(1);
        check.due("room for 1 more", x.of(0, 8), 79);
        x.rain(0, 2);
        x.hours(1);
        check.due("full", x.of(0, 8), 80);
        check.due("1 is left", x.at(0, 3), 1);
        x.hours(1);
        check.due("still full", x.of(0, 8), 80);
        check.due("3 are left", x.at(0, 3), 3);
    }

    /** Lateral, main and outfall in a chain that ends in DITCH 0, numbered as told. */
    private static DrainOffice chain(int lateral, int main, int outfall) {
        DrainOffice x = Offices.thirsty(1, 2);
        for (int p = 0; p < 3; p++) {
            if (p == lateral) {
                Offices.lay(x, 0, 1, 902, 1, Offices.LATERAL);
            } else if (p == main) {
                Offices.lay(x, 0, 1, 901, 1, Offices.MAIN);
            } else {
                Offices.lay(x, 1, 0, 900, 1, Offices.OUTFALL);
            }
        }
        x.join(lateral, main);
        x.join(main, outfall);
        x.open(outfall, 0);
        x.rain(0, 60);
        return x;
    }

    private static void leastRankPassesOnFirst() {
        check.sentence("Terms 2: by RANK, the least first");
        int[][] numbers = {{0, 1, 2}, {2, 1, 0}, {1, 2, 0}, {0, 2, 1}, {2, 0, 1}, {1, 0, 2}};
        for (int[] one : numbers) {
            DrainOffice x = chain(one[0], one[1], one[2]);
            check.due("hour 1: nothing GONE", x.hours(1), 0);
            check.due("hour 1: 6 in the main", x.of(one[1], 8), 6);
            check.due("hour 1: none in the outfall", x.of(one[2], 8), 0);
            check.due("hour 2: nothing GONE", x.hours(1), 0);
            check.due("hour 2: 6 in the main", x.of(one[1], 8), 6);
            check.due("hour 2: 6 in the outfall", x.of(one[2], 8), 6);
            check.due("hour 3: 6 GONE", x.hours(1), 6);
        }
    }

    private static void oneRankPassesOnByNumbers() {
        check.sentence("Terms 2: of one RANK by numbers");
        DrainOffice x = Offices.thirsty(1, 2);
        Offices.layWide(x, 0, 1, 900, 50, Offices.LATERAL, 1);
        Offices.layWide(x, 0, 1, 800, 1, Offices.MAIN, 1);
        Offices.layWide(x, 0, 1, 900, 50, Offices.LATERAL, 1);
        check.due("the later one is joined first", x.join(2, 1), 1);
        check.due("the earlier one next", x.join(0, 1), 1);
        x.rain(-1, 200);
        x.hours(1);
        check.due("PIPE 0 passes on what it bears", x.of(0, 11), 55);
        check.due("PIPE 2 what there is room for then", x.of(2, 11), 25);
        check.due("the main is full", x.of(1, 8), 80);
    }

    private static void rankCountsAheadOfNumbers() {
        check.sentence("Terms 2: by RANK, of one RANK by numbers (main 1 makes room ahead of lateral 0)");
        DrainOffice x = Offices.thirsty(1, 2);
        Offices.layWide(x, 0, 1, 900, 50, Offices.LATERAL, 4);
        Offices.layWide(x, 0, 1, 800, 1, Offices.MAIN, 1);
        Offices.layWide(x, 0, 1, 700, 1, Offices.OUTFALL, 4);
        x.join(0, 1);
        x.join(1, 2);
        x.rain(-1, 200);
        x.hours(1);
        check.due("the main is full", x.of(1, 8), 80);
        x.hours(1);
        check.due("it passed on first", x.of(1, 11), 6);
        check.due("so there was room", x.of(0, 11), 6);
        check.due("and it is full again", x.of(1, 8), 80);
    }

    private static void blockedPipesPassOnNothing() {
        check.sentence("Terms 2: each PIPE that isn't BLOCKED passes on");
        for (int blocked = 0; blocked < 3; blocked++) {
            DrainOffice x = chain(0, 1, 2);
            x.hours(5);
            int inside = x.of(blocked, 8);
            x.block(blocked, true);
            x.rain(0, 0);
            x.hours(1);
            for (int p = 0; p < 3; p++) {
                check.due("passed on by " + p, x.of(p, 11), p == blocked ? 0 : 6);
            }
            check.due("more in it by what came", x.of(blocked, 8), inside + (blocked == 0 ? 0 : 6));
        }
    }

    private static void nothingPassesIntoNothing() {
        check.sentence("Terms 2: nothing if it leads INTO nothing");
        DrainOffice x = chain(0, 1, 2);
        x.hours(4);
        x.part(2);
        check.due("nothing GONE", x.hours(1), 0);
        check.due("passed on", x.of(2, 11), 0);
        check.due("in the outfall", x.of(2, 8), 12);
        x.part(0);
        x.hours(1);
        check.due("the lateral passes on nothing", x.of(0, 11), 0);
        check.due("the main passes on still", x.of(1, 11), 6);
    }

    private static void flapIsShutBelowTheDitch() {
        check.sentence("Terms 2: INTO a DITCH whose LEVEL is above its own LEVEL at its last step");
        int[][] cases = {{900, 898, 6}, {900, 899, 6}, {900, 900, 0}, {900, 0, 6}, {900, 2000, 0},
            {1, 0, 6}, {1, 1, 0}, {2, 1, 6}, {2, 2, 0}};
        for (int[] one : cases) {
            check.due("ends at " + (one[0] - 1) + ", DITCH at " + one[1], goneInto(one[0], one[1]), one[2]);
        }
    }

    /** What goes in an hour through an outfall of FALL 1 from that level into a ditch of that one. */
    private static int goneInto(int level, int ditchLevel) {
        DrainOffice x = Offices.thirsty(1, 2);
        Offices.lay(x, 0, 1, 930, 1, Offices.LATERAL);
        Offices.lay(x, 1, 0, level, 1, Offices.OUTFALL);
        x.join(0, 1);
        x.open(1, 2);
        x.ditch(2, ditchLevel);
        x.rain(0, 20);
        x.hours(1);
        int gone = x.hours(1);
        check.due("passed on", x.of(1, 11), gone);
        check.due("nothing is lost", x.of(1, 8), 12 - gone);
        return gone;
    }

    private static void flapGoesByTheLastStep() {
        check.sentence("Terms 2: its own LEVEL at its last step (not at its first)");
        DrainOffice x = Offices.thirsty(1, 6);
        Offices.lay(x, 1, 0, 930, 1, Offices.LATERAL);
        Offices.lay(x, 0, 5, 900, 50, Offices.OUTFALL);
        x.join(0, 1);
        x.open(1, 0);
        x.rain(0, 50);
        x.hours(1);
        x.ditch(0, 651);
        check.due("it ends at 650: shut", x.hours(1), 0);
        x.ditch(0, 650);
        check.due("open: two hours' 6 are in it", x.hours(1), 12);
    }

    private static void passesOnAllThatIsInIt() {
        check.sentence("Terms 2: else as much as is in it");
        for (int rain : new int[] {0, 1, 5, 6}) {
            DrainOffice x = Offices.drained();
            x.rain(0, rain);
            x.hours(1);
            check.due("passed on of " + rain, x.of(0, 11), rain);
            check.due("left of " + rain, x.of(0, 8), 0);
            x.rain(0, 0);
            check.due("GONE of " + rain, x.hours(1), rain);
            check.due("then nothing is in it", x.hours(1), 0);
            check.due("and none passed on", x.of(1, 11), 0);
        }
    }

    private static void passesOnWhatItBears() {
        check.sentence("Terms 2: at most what it BEARS");
        for (int rain : new int[] {7, 80}) {
            DrainOffice x = Offices.drained();
            x.rain(0, rain);
            x.hours(1);
            check.due("passed on of " + rain, x.of(0, 11), 6);
            check.due("left of " + rain, x.of(0, 8), rain - 6);
        }
        DrainOffice y = Offices.drained();
        y.rain(0, 80);
        y.ditch(0, 2000);
        y.hours(10);
        y.ditch(0, 0);
        check.due("the outfall, INTO a DITCH, too", y.hours(1), 6);
    }

    private static void passesOnWhatThePipeHolds() {
        check.sentence("Terms 2: INTO a PIPE at most what that HOLDS less what is in it");
        for (int rain : new int[] {79, 80, 81}) {
            DrainOffice x = Offices.thirsty(1, 2);
            Offices.layWide(x, 0, 1, 900, 50, Offices.LATERAL, 4);
            Offices.layWide(x, 0, 1, 800, 1, Offices.MAIN, 1);
            x.join(0, 1);
            x.rain(0, rain);
            x.hours(1);
            check.due("passed on of " + rain, x.of(0, 11), Math.min(80, rain));
            check.due("in the main of " + rain, x.of(1, 8), Math.min(80, rain));
            check.due("left of " + rain, x.of(0, 8), Math.max(0, rain - 80));
            x.rain(0, 5);
            x.hours(1);
            check.due("room for so much more", x.of(0, 11), 80 - Math.min(80, rain));
            check.due("the main is full", x.of(1, 8), 80);
            x.hours(1);
            check.due("no room", x.of(0, 11), 0);
        }
    }

    private static void blockedPipesAreStillPassedInto() {
        check.sentence("Terms 2: each PIPE that isn't BLOCKED passes on (whatever that is INTO which it leads)");
        DrainOffice x = chain(0, 1, 2);
        x.block(1, true);
        x.hours(13);
        check.due("13 times 6 in the blocked main", x.of(1, 8), 78);
        x.hours(1);
        check.due("till it is full", x.of(0, 11), 2);
        x.hours(1);
        check.due("then no more", x.of(0, 11), 0);
    }

    private static void ditchesTakeAnyAmount() {
        check.sentence("Terms 2: as much as is in it, at most what it BEARS (a DITCH holds all)");
        DrainOffice x = Offices.thirsty(1, 6);
        Offices.layWide(x, 5, 0, 900, 50, Offices.LATERAL, 4);
        Offices.layWide(x, 0, 5, 600, 50, Offices.OUTFALL, 4);
        x.join(0, 1);
        x.open(1, 3);
        x.rain(-1, 300);
        x.hours(1);
        check.due("880 in the outfall", x.of(1, 8), 880);
        check.due("880 in the second hour", x.hours(1), 880);
        check.due("GONE to DITCH 3", x.all(6), 880);
        int gone = x.hours(50);
        check.due("and so on", x.all(6), 880 + gone);
        check.due("880 in each", gone, 50 * 880);
    }

    private static void lifeIsLessByOne() {
        check.sentence("Terms 2: Then the LIFE of each MOLE that isn't over is less by 1 (0: it is over)");
        DrainOffice x = Offices.land(1, 2);
        x.trench(0, 1, 900, 1);
        x.pipe(2, 1, 1);
        x.pipe(2, 1, 100);
        x.pipe(2, 1, 50);
        x.pipe(0, 1, 50);
        x.block(2, true);
        int[] hours = {1, 48, 1, 49, 1, 1};
        int[][] lives = {{0, 99, 49, 0}, {0, 51, 1, 0}, {0, 50, 0, 0}, {0, 1, 0, 0}, {0, 0, 0, 0}, {0, 0, 0, 0}};
        for (int i = 0; i < hours.length; i++) {
            x.hours(hours[i]);
            for (int p = 0; p < 4; p++) {
                check.due("LIFE of " + p + ", " + x.many(2) + " hours", x.of(p, 9), lives[i][p]);
            }
        }
    }

    private static void lifeEndsBehindTheLastHour() {
        check.sentence("Terms 2: LIFE is less at the end of AN HOUR: in the last one the MOLE still takes");
        DrainOffice x = Offices.thirsty(1, 2);
        Offices.layWide(x, 0, 1, 900, 1, Offices.MOLE, 4);
        x.rain(0, 1);
        x.hours(50);
        x.hours(50);
        check.due("100 hours of 1", x.of(0, 8), 100);
        check.due("nothing in the soil", x.at(0, 3), 0);
        x.hours(1);
        check.due("no more in hour 101", x.of(0, 8), 100);
        check.due("it stays in the soil", x.at(0, 3), 1);
        Offices.lay(x, 0, 1, 900, 1, Offices.MAIN);
        x.join(0, 1);
        x.hours(1);
        check.due("over, it still passes on", x.of(0, 11), 80);
    }
}
