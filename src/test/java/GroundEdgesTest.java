/** Each sentence of promises 1 to 6 that names a boundary case, with a test of its own. */
public final class GroundEdgesTest {
    private static final int NUMBER = DrainOffice.NUMBER;
    private static final Check check = new Check();

    public static void main(String[] args) {
        newLandIsOnePlace();
        newSoilsDoNothing();
        newDitchesAreAtNought();
        newObjectHasNothingElse();
        landAnswersHowManyPlaces();
        landMakesHeightsAndSoilsAnew();
        landTakesPipesAway();
        landTakesWaterAndRainAway();
        landTakesMarksAndSightAway();
        landLeavesSoils();
        landLeavesDitches();
        landOfOnePlace();
        heightOfTheFirstAndTheLastPlace();
        heightLeavesPipes();
        soilOfTheFirstAndTheLastPlace();
        soilsOfTheFirstAndTheLastSoil();
        soilsTakeEachNumberAsTold();
        ditchOfTheFirstAndTheLast();
        tellingTheSameAgainAnswersOne();
        check.finish();
    }

    private static void newLandIsOnePlace() {
        check.sentence("Promise 1: THE LAND is one PLACE of HEIGHT 0, SOIL 0");
        DrainOffice x = new DrainOffice();
        check.due("many(0)", x.many(0), 1);
        check.due("its HEIGHT", x.at(0, 0), 0);
        check.due("its SOIL", x.at(0, 1), 0);
        check.due("no PLACE 1", x.at(1, 0), NUMBER);
        check.due("no PLACE -1", x.at(-1, 0), NUMBER);
        check.due("height(1, 5)", x.height(1, 5), NUMBER);
        check.due("soil(1, 0)", x.soil(1, 0), NUMBER);
        check.due("rain(1, 5)", x.rain(1, 5), NUMBER);
        check.due("mark(1, true)", x.mark(1, true), NUMBER);
        check.due("sight(1, true)", x.sight(1, true), NUMBER);
        check.due("no other PLACE to go to", x.trench(0, 1, 0, 1), NUMBER);
        check.due("no way to itself", x.trench(0, 0, 0, 1), NUMBER);
        check.due("height(0, 2000)", x.height(0, 2000), 1);
        check.due("its HEIGHT", x.at(0, 0), 2000);
    }

    private static void newSoilsDoNothing() {
        check.sentence("Promise 1: SOILS TAKE, GIVE, KEEP, REACH 0");
        for (int soil = 0; soil < 4; soil++) {
            DrainOffice x = new DrainOffice();
            check.due("soil(0, " + soil + ")", x.soil(0, soil), 1);
            x.rain(0, 1);
            x.hours(50);
            check.due("all STANDS", x.at(0, 2), 50);
            check.due("none is in the soil", x.at(0, 3), 0);
            x.land(1, 3);
            x.soil(2, soil);
            Offices.lay(x, 0, 1, 900, 1, Offices.LATERAL);
            check.due("no REACH to the next PLACE", x.at(2, 5), 0);
        }
    }

    private static void newDitchesAreAtNought() {
        check.sentence("Promise 1: DITCHES have the LEVEL 0");
        for (int ditch = 0; ditch < 4; ditch++) {
            DrainOffice x = Offices.thirsty(1, 2);
            Offices.lay(x, 0, 1, 900, 1, Offices.LATERAL);
            Offices.lay(x, 1, 0, 1, 1, Offices.OUTFALL);
            x.join(0, 1);
            x.open(1, ditch);
            x.rain(0, 10);
            x.hours(1);
            check.due("an outfall that ends at LEVEL 0 is open", x.hours(1), 6);
        }
    }

    private static void newObjectHasNothingElse() {
        check.sentence("Promise 1: nothing else");
        DrainOffice x = new DrainOffice();
        int[] many = {1, 0, 0, 1, 0, 0, 0};
        for (int what = 0; what <= 6; what++) {
            check.due("many(" + what + ")", x.many(what), many[what]);
        }
        for (int what = 0; what <= 7; what++) {
            check.due("all(" + what + ")", x.all(what), 0);
        }
        check.due("no RAIN", x.at(0, 4), 0);
        check.due("no PIPE", x.of(0, 0), NUMBER);
        check.due("no trench", x.pipe(0, 1, 0), DrainOffice.NONE);
        check.due("nothing kept", x.back(), DrainOffice.NONE);
        check.due("not MARKED", x.mark(0, false), 0);
        check.due("not in THE SIGHT", x.sight(0, false), 0);
        check.due("no pair", x.pair(0), DrainOffice.NONE);
        check.due("no PIPE is tried", x.where(1, 1), DrainOffice.NONE);
    }

    private static void landAnswersHowManyPlaces() {
        check.sentence("Promise 2: how many PLACES");
        DrainOffice x = new DrainOffice();
        check.due("the least", x.land(1, 1), 1);
        check.due("the most", x.land(6, 6), 36);
        check.due("the same again", x.land(6, 6), 36);
        check.due("one ROW", x.land(1, 6), 6);
        check.due("one COLUMN", x.land(6, 1), 6);
        check.due("many(0)", x.many(0), 6);
    }

    /** The greatest land with the most of all that land() takes away. */
    private static DrainOffice crowded() {
        DrainOffice x = Offices.thirsty(6, 6);
        Offices.lay(x, 0, 5, 900, 1, Offices.LATERAL);
        Offices.lay(x, 5, 0, 800, 1, Offices.OUTFALL);
        x.join(0, 1);
        x.open(1, 1);
        for (int p = 2; p < 20; p++) {
            x.pipe(2, 4, 100);
            x.block(p, true);
        }
        x.rain(-1, 300);
        x.hours(50);
        for (int place = 0; place < 36; place++) {
            x.height(place, place);
            x.soil(place, 3);
            x.mark(place, true);
            x.sight(place, true);
        }
        check.due("water is GONE", x.all(4) > 0 ? 1 : 0, 1);
        check.due("all are MARKED", x.many(4), 36);
        check.due("all but two are BLOCKED", x.many(6), 18);
        return x;
    }

    private static void landMakesHeightsAndSoilsAnew() {
        check.sentence("Promise 2: A new LAND, HEIGHTS 1000, SOILS 0");
        DrainOffice x = crowded();
        x.land(6, 6);
        for (int place = 0; place < 36; place++) {
            check.due("HEIGHT of " + place, x.at(place, 0), 1000);
            check.due("SOIL of " + place, x.at(place, 1), 0);
        }
    }

    private static void landTakesPipesAway() {
        check.sentence("Promise 2: no PIPES");
        DrainOffice x = crowded();
        x.land(6, 6);
        check.due("many(1)", x.many(1), 0);
        check.due("many(6)", x.many(6), 0);
        check.due("none reaches", x.many(3), 36);
        check.due("of(0, 0)", x.of(0, 0), NUMBER);
        check.due("step(0, 0, 0)", x.step(0, 0, 0), -10000);
        check.due("no trench", x.pipe(0, 1, 0), DrainOffice.NONE);
        x.trench(0, 1, 900, 1);
        for (int p = 0; p < 20; p++) {
            check.due("twenty new ones", x.pipe(0, 1, 0), p);
            int[] of = {0, 2, 1, 6, 80, 0, -1, 0, 0, 0, 0, 0};
            for (int what = 0; what < of.length; what++) {
                check.due("of(" + p + ", " + what + ")", x.of(p, what), of[what]);
            }
        }
    }

    private static void landTakesWaterAndRainAway() {
        check.sentence("Promise 2: no water, no RAIN, nothing is GONE");
        DrainOffice x = crowded();
        x.land(6, 6);
        check.due("HOURS", x.many(2), 0);
        for (int what = 0; what <= 7; what++) {
            check.due("all(" + what + ")", x.all(what), 0);
        }
        for (int place = 0; place < 36; place++) {
            for (int what = 2; what <= 5; what++) {
                check.due("at(" + place + ", " + what + ")", x.at(place, what), 0);
            }
        }
        check.due("hours(50)", x.hours(50), 0);
        check.due("no RAIN fell in them", x.all(7), 0);
    }

    private static void landTakesMarksAndSightAway() {
        check.sentence("Promise 2: nothing MARKED or in THE SIGHT");
        DrainOffice x = crowded();
        x.land(6, 6);
        check.due("many(4)", x.many(4), 0);
        check.due("many(5)", x.many(5), 0);
        check.due("tree()", x.tree(), 0);
        check.due("pair(0)", x.pair(0), DrainOffice.NONE);
        for (int place = 0; place < 36; place++) {
            check.due("mark(" + place + ", false)", x.mark(place, false), 0);
            check.due("sight(" + place + ", false)", x.sight(place, false), 0);
        }
        check.due("nothing stands, nothing is seen", x.where(1, 0), 9999);
    }

    private static void landLeavesSoils() {
        check.sentence("Promise 2: (SOILS stay as they are)");
        DrainOffice x = new DrainOffice();
        for (int soil = 0; soil < 4; soil++) {
            x.soils(soil, 50 + soil, 10 + soil, 50 + soil, 1 + soil * soil);
        }
        x.land(1, 4);
        x.land(6, 6);
        Offices.layWide(x, 0, 3, 900, 1, Offices.LATERAL, 4);
        x.rain(-1, 100);
        for (int soil = 0; soil < 4; soil++) {
            x.soil(soil, soil);
        }
        x.hours(1);
        for (int soil = 0; soil < 4; soil++) {
            check.due("STANDS on SOIL " + soil, x.at(soil, 2), 50 - soil);
            check.due("WET is SOIL " + soil, x.at(soil, 3), 50 + soil - (50 + soil) * (10 + soil) / 100);
            int place = 6 * soil;
            x.soil(place, soil);
            check.due("REACHES " + (1 + soil * soil), x.at(place, 5), 1);
            x.soil(place + 6, soil);
            check.due("no further", x.at(place + 6, 5), soil == 0 ? 1 : 0);
        }
    }

    private static void landLeavesDitches() {
        check.sentence("Promise 2: (DITCHES stay as they are)");
        for (int ditch = 0; ditch < 4; ditch++) {
            DrainOffice x = new DrainOffice();
            x.ditch(ditch, 800);
            x.land(3, 3);
            x.land(1, 2);
            x.soils(0, 200, 100, 1000, 0);
            Offices.lay(x, 0, 1, 930, 1, Offices.LATERAL);
            Offices.lay(x, 1, 0, 801, 1, Offices.OUTFALL);
            Offices.lay(x, 0, 1, 930, 1, Offices.LATERAL);
            Offices.lay(x, 1, 0, 800, 1, Offices.OUTFALL);
            x.join(0, 1);
            x.join(2, 3);
            x.open(1, ditch);
            x.open(3, ditch);
            x.rain(-1, 100);
            x.hours(2);
            check.due("ends at 800: open", x.of(1, 11), 6);
            check.due("ends at 799: shut", x.of(3, 11), 0);
        }
    }

    private static void landOfOnePlace() {
        check.sentence("Promise 2: rows or columns isn't 1 to 6 (1 by 1 is, behind a greater land)");
        DrainOffice x = crowded();
        check.due("land(1, 1)", x.land(1, 1), 1);
        check.due("HEIGHT", x.at(0, 0), 1000);
        check.due("no PLACE 1", x.at(1, 0), NUMBER);
        check.due("dry(0)", x.dry(0), 0);
        check.due("dry(1)", x.dry(1), DrainOffice.NONE);
        check.due("many(3)", x.many(3), 1);
    }

    private static void heightOfTheFirstAndTheLastPlace() {
        check.sentence("Promise 3: NUMBER: there is no such PLACE, or it isn't 0 to 2000");
        DrainOffice x = Offices.land(6, 6);
        check.ends("height(.., 7)", 0, 35, n -> x.height(n, 7), 1, NUMBER);
        check.ends("height(35, ..)", 0, 2000, n -> x.height(35, n), 1, NUMBER);
        check.due("at(0, 0)", x.at(0, 0), 7);
        check.due("at(35, 0)", x.at(35, 0), 2000);
        for (int place = 1; place < 35; place++) {
            check.due("at(" + place + ", 0)", x.at(place, 0), 1000);
        }
        DrainOffice y = Offices.land(2, 3);
        check.ends("height(.., 7) of six", 0, 5, n -> y.height(n, 7), 1, NUMBER);
    }

    private static void heightLeavesPipes() {
        check.sentence("Promise 3: (PIPES stay, whatever COVER they have then.)");
        DrainOffice x = Offices.drained();
        check.due("height(0, 0)", x.height(0, 0), 1);
        check.due("height(1, 961)", x.height(1, 961), 1);
        check.due("they stay", x.many(1), 2);
        check.due("COVER far below 0", x.step(0, 0, 2), -902);
        check.due("COVER 60", x.step(0, 1, 2), 60);
        x.height(1, 960);
        check.due("COVER 59", x.step(0, 1, 2), 59);
        x.height(1, 901);
        check.due("COVER 0", x.step(0, 1, 2), 0);
        x.rain(-1, 10);
        x.hours(2);
        check.due("they still lead on", x.hours(1), 6);
        check.due("join is still made", x.join(0, 1), 1);
        check.due("none comes in that trench now", x.pipe(0, 1, 0), -100);
    }

    private static void soilOfTheFirstAndTheLastPlace() {
        check.sentence("Promise 4: NUMBER: there is no such PLACE, SOIL");
        DrainOffice x = Offices.land(6, 6);
        check.ends("soil(.., 2)", 0, 35, n -> x.soil(n, 2), 1, NUMBER);
        check.ends("soil(35, ..)", 0, 3, n -> x.soil(35, n), 1, NUMBER);
        check.due("at(0, 1)", x.at(0, 1), 2);
        check.due("at(35, 1)", x.at(35, 1), 3);
        for (int place = 1; place < 35; place++) {
            check.due("at(" + place + ", 1)", x.at(place, 1), 0);
        }
    }

    private static void soilsOfTheFirstAndTheLastSoil() {
        check.sentence("Promise 5: NUMBER: there is no such SOIL, or a number isn't as told");
        DrainOffice x = Offices.land(1, 4);
        check.ends("soils(.., 200, 100, 1000, 40)", 0, 3, n -> x.soils(n, 200, 100, 1000, 40), 1, NUMBER);
        check.ends("soils(.., 0, 0, 0, 0)", 0, 3, n -> x.soils(n, 0, 0, 0, 0), 1, NUMBER);
        for (int soil = 0; soil < 4; soil++) {
            int s = soil;
            check.ends("takes", 0, 200, n -> x.soils(s, n, 100, 1000, 40), 1, NUMBER);
            check.ends("gives", 0, 100, n -> x.soils(s, 200, n, 1000, 40), 1, NUMBER);
            check.ends("keeps", 0, 1000, n -> x.soils(s, 200, 100, n, 40), 1, NUMBER);
            check.ends("reaches", 0, 40, n -> x.soils(s, 200, 100, 1000, n), 1, NUMBER);
        }
        check.due("gives may not be what takes may", x.soils(0, 0, 200, 0, 0), NUMBER);
        check.due("reaches may not be what gives may", x.soils(0, 0, 0, 0, 100), NUMBER);
        check.due("takes may not be what keeps may", x.soils(0, 1000, 0, 0, 0), NUMBER);
    }

    private static void soilsTakeEachNumberAsTold() {
        check.sentence("Promise 5: What a SOIL TAKES, GIVES, KEEPS, REACHES");
        for (int soil = 0; soil < 4; soil++) {
            DrainOffice x = Offices.land(1, 4);
            for (int place = 0; place < 4; place++) {
                x.soil(place, soil);
            }
            x.soils(soil, 30, 40, 50, 1);
            x.rain(-1, 45);
            x.hours(1);
            check.due("TAKES 30", x.at(3, 3), 30);
            x.hours(1);
            check.due("KEEPS 50", x.at(3, 3), 50);
            Offices.lay(x, 0, 1, 900, 1, Offices.LATERAL);
            x.hours(1);
            check.due("GIVES 40 by 100", x.at(0, 3), 30);
            check.due("REACHES 1", x.at(2, 5), 1);
            check.due("not 4", x.at(3, 5), 0);
        }
    }

    private static void ditchOfTheFirstAndTheLast() {
        check.sentence("Promise 6: NUMBER: there is no such DITCH, or it isn't 0 to 2000");
        for (int ditch = 0; ditch < 4; ditch++) {
            DrainOffice x = Offices.drained();
            int d = ditch;
            x.open(1, d);
            x.rain(0, 50);
            x.hours(2);
            check.ends("ditch(.., 0)", 0, 3, n -> x.ditch(n, 0), 1, NUMBER);
            check.ends("ditch(" + d + ", ..)", 0, 2000, n -> x.ditch(d, n), 1, NUMBER);
            check.due("2000 was told last: shut", x.hours(1), 0);
            check.due("refused", x.ditch(d, -1), NUMBER);
            check.due("still shut", x.hours(1), 0);
            check.due("another one", x.ditch((d + 1) % 4, 0), 1);
            check.due("still shut", x.hours(1), 0);
            check.due("ditch(" + d + ", 899)", x.ditch(d, 899), 1);
            check.due("open", x.hours(1), 6);
        }
    }

    private static void tellingTheSameAgainAnswersOne() {
        check.sentence("Promises 3 to 6: 1 (whether it was so already or not)");
        DrainOffice x = Offices.land(1, 2);
        check.due("height as it is", x.height(0, 1000), 1);
        check.due("soil as it is", x.soil(0, 0), 1);
        check.due("soils as they are", x.soils(0, 0, 0, 0, 0), 1);
        check.due("ditch as it is", x.ditch(0, 0), 1);
    }
}
