/** Promises 1 to 6: a new object, land, height, soil, soils, ditch. */
public final class GroundTest {
    private static final Check check = new Check();

    public static void main(String[] args) {
        newObjectIsEmpty();
        newObjectHasNothingKeptOrInHand();
        newSoilsDoNothing();
        newDitchesAreAtLevelNought();
        landCountsPlaces();
        placesGoRowByRow();
        landTakesAllAway();
        landLeavesSoilsAndDitches();
        landLeavesWhatIsKept();
        heightOfAPlace();
        soilOfAPlace();
        soilsTakeTheirEdges();
        ditchTakesItsEdges();
        check.finish();
    }

    private static void newObjectIsEmpty() {
        DrainOffice x = new DrainOffice();
        int[] many = {1, 0, 0, 1, 0, 0, 0};
        for (int what = 0; what < many.length; what++) {
            check.due("new: many(" + what + ")", x.many(what), many[what]);
        }
        for (int what = 0; what <= 7; what++) {
            check.due("new: all(" + what + ")", x.all(what), 0);
        }
        for (int what = 0; what <= 5; what++) {
            check.due("new: at(0, " + what + ")", x.at(0, what), 0);
        }
        check.due("new: at(1, 0)", x.at(1, 0), DrainOffice.NUMBER);
        check.due("new: dry(0)", x.dry(0), 0);
        check.due("new: dry(1)", x.dry(1), DrainOffice.NONE);
        check.due("new: tree()", x.tree(), 0);
        check.due("new: pair(0)", x.pair(0), DrainOffice.NONE);
        check.due("new: of(0, 0)", x.of(0, 0), DrainOffice.NUMBER);
        check.due("new: where(1, 0)", x.where(1, 0), 9999);
        check.due("new: see()", x.see(), 0);
    }

    private static void newObjectHasNothingKeptOrInHand() {
        DrainOffice x = new DrainOffice();
        check.due("new: back()", x.back(), DrainOffice.NONE);
        check.due("new: pipe(0, 1, 0)", x.pipe(0, 1, 0), DrainOffice.NONE);
        check.due("new: hours(50)", x.hours(50), 0);
        check.due("new: all(7)", x.all(7), 0);
    }

    private static void newSoilsDoNothing() {
        for (int soil = 0; soil <= 3; soil++) {
            DrainOffice x = new DrainOffice();
            x.land(2, 2);
            for (int place = 0; place < 4; place++) {
                check.due("soil(place, " + soil + ")", x.soil(place, soil), 1);
            }
            x.trench(0, 1, 900, 1);
            x.pipe(0, 1, 0);
            x.rain(-1, 10);
            x.hours(1);
            check.due("new soil takes nothing: all(0)", x.all(0), 40);
            check.due("new soil reaches its own steps: many(3)", x.many(3), 2);
            check.due("new soil reaches no further: dry(0)", x.dry(0), 2);
        }
    }

    private static void newDitchesAreAtLevelNought() {
        for (int ditch = 0; ditch <= 3; ditch++) {
            DrainOffice x = lateralIntoOutfall();
            x.open(1, ditch);
            x.rain(-1, 100);
            x.hours(1);
            check.due("outfall ends at level 0", x.step(1, 1, 1), 0);
            check.due("ditch at 0 is open: hours(1)", x.hours(1), 6);
        }
    }

    /** A lateral 0 to 1 and an outfall 1 to 0 that ends at level 0; soil 0 takes and gives all. */
    private static DrainOffice lateralIntoOutfall() {
        DrainOffice x = new DrainOffice();
        x.land(1, 2);
        x.soils(0, 200, 100, 1000, 0);
        x.trench(0, 1, 2, 1);
        x.pipe(0, 1, 0);
        x.trench(1, 0, 1, 1);
        x.pipe(3, 1, 0);
        check.due("join(0, 1)", x.join(0, 1), 1);
        return x;
    }

    private static void landCountsPlaces() {
        DrainOffice x = new DrainOffice();
        for (int rows = 1; rows <= 6; rows++) {
            for (int columns = 1; columns <= 6; columns++) {
                check.due("land(" + rows + ", " + columns + ")", x.land(rows, columns), rows * columns);
                check.due("many(0)", x.many(0), rows * columns);
                check.due("last place", x.at(rows * columns - 1, 0), 1000);
                check.due("behind the last place", x.at(rows * columns, 0), DrainOffice.NUMBER);
            }
        }
    }

    private static void placesGoRowByRow() {
        DrainOffice x = new DrainOffice();
        x.land(2, 3);
        check.due("trench(0, 2): one row", x.trench(0, 2, 900, 1), 3);
        check.due("trench(3, 5): one row", x.trench(3, 5, 900, 1), 3);
        check.due("trench(2, 5): one column", x.trench(2, 5, 900, 1), 2);
        check.due("trench(2, 3): neither", x.trench(2, 3, 900, 1), DrainOffice.NUMBER);
        check.due("trench(0, 4): neither", x.trench(0, 4, 900, 1), DrainOffice.NUMBER);
    }

    private static void landTakesAllAway() {
        DrainOffice x = lateralIntoOutfall();
        x.open(1, 2);
        x.rain(-1, 300);
        x.hours(5);
        x.block(0, true);
        x.mark(0, true);
        x.mark(1, true);
        x.sight(1, true);
        x.height(0, 5);
        x.soil(1, 3);
        check.due("land(1, 3)", x.land(1, 3), 3);
        int[] many = {3, 0, 0, 3, 0, 0, 0};
        for (int what = 0; what < many.length; what++) {
            check.due("behind land: many(" + what + ")", x.many(what), many[what]);
        }
        for (int what = 0; what <= 7; what++) {
            check.due("behind land: all(" + what + ")", x.all(what), 0);
        }
        int[] at = {1000, 0, 0, 0, 0, 0};
        for (int place = 0; place < 3; place++) {
            for (int what = 0; what < at.length; what++) {
                check.due("behind land: at(" + place + ", " + what + ")", x.at(place, what), at[what]);
            }
        }
        check.due("behind land: no trench", x.pipe(0, 1, 0), DrainOffice.NONE);
        x.trench(0, 1, 900, 1);
        check.due("behind land: numbers start anew", x.pipe(1, 1, 0), 0);
        int[] of = {1, 2, 1, 6, 80, 0, -1, 0, 0, 0, 0, 0};
        for (int what = 0; what < of.length; what++) {
            check.due("behind land: of(0, " + what + ")", x.of(0, what), of[what]);
        }
    }

    private static void landLeavesSoilsAndDitches() {
        DrainOffice x = lateralIntoOutfall();
        x.soils(3, 7, 100, 1000, 1);
        x.ditch(3, 800);
        x.land(1, 2);
        x.soil(0, 3);
        x.rain(0, 10);
        x.hours(1);
        check.due("soil 3 still takes 7", x.at(0, 3), 7);
        x.trench(0, 1, 800, 1);
        x.pipe(0, 1, 0);
        x.trench(1, 0, 799, 1);
        x.pipe(3, 1, 0);
        x.join(0, 1);
        x.open(1, 3);
        check.due("ditch 3 still shuts the flap", x.hours(5), 0);
        x.ditch(3, 798);
        check.due("and opens at its level", x.hours(1), 6);
    }

    private static void landLeavesWhatIsKept() {
        DrainOffice x = new DrainOffice();
        x.land(2, 3);
        x.keep();
        x.land(4, 4);
        check.due("back() behind land()", x.back(), 1);
        check.due("many(0) behind back()", x.many(0), 6);
    }

    private static void heightOfAPlace() {
        DrainOffice x = new DrainOffice();
        x.land(1, 3);
        check.due("height(1, 0)", x.height(1, 0), 1);
        check.due("at(1, 0)", x.at(1, 0), 0);
        check.due("height(1, 2000)", x.height(1, 2000), 1);
        check.due("height(1, 2000) again", x.height(1, 2000), 1);
        check.due("at(1, 0)", x.at(1, 0), 2000);
        check.due("at(0, 0)", x.at(0, 0), 1000);
        check.due("at(2, 0)", x.at(2, 0), 1000);
        x.trench(0, 2, 900, 1);
        x.pipe(0, 1, 0);
        check.due("height(2, 10)", x.height(2, 10), 1);
        check.due("the pipe stays", x.many(1), 1);
        check.due("whatever cover it has", x.step(0, 2, 2), 10 - 898);
    }

    private static void soilOfAPlace() {
        DrainOffice x = new DrainOffice();
        x.land(1, 2);
        for (int soil = 3; soil >= 0; soil--) {
            check.due("soil(1, " + soil + ")", x.soil(1, soil), 1);
            check.due("at(1, 1)", x.at(1, 1), soil);
            check.due("at(0, 1)", x.at(0, 1), 0);
        }
    }

    private static void soilsTakeTheirEdges() {
        DrainOffice x = new DrainOffice();
        x.land(1, 2);
        check.due("soils, all at most", x.soils(1, 200, 100, 1000, 40), 1);
        check.due("soils, all at least", x.soils(2, 0, 0, 0, 0), 1);
        x.soil(0, 1);
        x.soil(1, 2);
        x.rain(-1, 300);
        x.hours(6);
        check.due("takes 200 till it keeps 1000", x.at(0, 3), 1000);
        check.due("the rest stands", x.at(0, 2), 800);
        check.due("takes nothing", x.at(1, 3), 0);
        x.soils(1, 0, 0, 0, 0);
        x.soils(2, 5, 0, 9, 0);
        x.hours(1);
        check.due("more wet than it keeps: stays so", x.at(0, 3), 1000);
        check.due("takes 5", x.at(1, 3), 5);
        x.hours(1);
        check.due("keeps 9", x.at(1, 3), 9);
    }

    private static void ditchTakesItsEdges() {
        DrainOffice x = lateralIntoOutfall();
        x.open(1, 1);
        x.rain(-1, 100);
        x.hours(2);
        check.due("ditch(1, 2000)", x.ditch(1, 2000), 1);
        check.due("shut: hours(1)", x.hours(1), 0);
        check.due("ditch(1, 1)", x.ditch(1, 1), 1);
        check.due("shut by 1: hours(1)", x.hours(1), 0);
        check.due("ditch(0, 0), another one", x.ditch(0, 0), 1);
        check.due("still shut: hours(1)", x.hours(1), 0);
        check.due("ditch(1, 0)", x.ditch(1, 0), 1);
        check.due("open: hours(1)", x.hours(1), 6);
        check.due("gone to ditch 1", x.all(4), 12);
        check.due("gone to ditch 0", x.all(3), 0);
    }
}
