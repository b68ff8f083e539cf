/** Promises 15 to 20: rain, hours, at, all, many, dry. */
public final class WaterTest {
    private static final Check check = new Check();

    public static void main(String[] args) {
        rainStaysTillToldAnew();
        soilTakesWhatItMay();
        lateralsTakeByNumbers();
        lateralsTakePlaceByPlace();
        mainsTakeNothingFromSoil();
        lateralsHoldNoMore();
        wholePartIsGiven();
        blockedPipesStandStill();
        blockedPipesStillFill();
        molesEnd();
        ranksPassOnInOrder();
        passingOnHasItsBounds();
        flapsShut();
        nothingIsLost();
        hoursCountWhatIsGone();
        reachedPlaces();
        reachGoesByTheSoilOfThePlace();
        manyCounts();
        check.finish();
    }

    /** A row of places; soil 0 takes 200, gives so much, keeps 1000. */
    private static DrainOffice row(int columns, int gives) {
        DrainOffice x = new DrainOffice();
        x.land(1, columns);
        x.soils(0, 200, gives, 1000, 0);
        return x;
    }

    private static void rainStaysTillToldAnew() {
        DrainOffice x = new DrainOffice();
        x.land(2, 2);
        check.due("rain(-1, 7)", x.rain(-1, 7), 1);
        check.due("rain(2, 300)", x.rain(2, 300), 1);
        check.due("rain(3, 0)", x.rain(3, 0), 1);
        int[] rain = {7, 7, 300, 0};
        for (int place = 0; place < 4; place++) {
            check.due("at(" + place + ", 4)", x.at(place, 4), rain[place]);
        }
        x.hours(3);
        for (int place = 0; place < 4; place++) {
            check.due("at(" + place + ", 2)", x.at(place, 2), 3 * rain[place]);
        }
        check.due("rain(-1, 0)", x.rain(-1, 0), 1);
        x.hours(1);
        check.due("all(7)", x.all(7), 942);
        check.due("all(0)", x.all(0), 942);
    }

    private static void soilTakesWhatItMay() {
        DrainOffice x = new DrainOffice();
        x.land(1, 3);
        x.soils(0, 30, 0, 100, 0);
        x.rain(0, 20);
        x.rain(1, 50);
        x.hours(1);
        check.due("all of 20", x.at(0, 3), 20);
        check.due("30 of 50", x.at(1, 3), 30);
        check.due("20 stand", x.at(1, 2), 20);
        x.hours(3);
        check.due("100 at most", x.at(1, 3), 100);
        check.due("the rest stands", x.at(1, 2), 100);
        check.due("no rain there", x.at(2, 3), 0);
        x.soils(0, 30, 0, 90, 0);
        x.hours(1);
        check.due("more wet than it keeps", x.at(1, 3), 100);
        check.due("so all stands", x.at(1, 2), 150);
        check.due("not more than it keeps", x.at(0, 3), 90);
        check.due("the rest of it stands", x.at(0, 2), 10);
    }

    private static void lateralsTakeByNumbers() {
        DrainOffice x = row(2, 50);
        x.trench(0, 1, 900, 1);
        x.pipe(0, 1, 0);
        x.pipe(2, 1, 9);
        x.pipe(0, 1, 0);
        x.rain(0, 100);
        x.hours(1);
        check.due("50 of 100", x.of(0, 8), 50);
        check.due("25 of 50, a mole too", x.of(1, 8), 25);
        check.due("12 of 25", x.of(2, 8), 12);
        check.due("13 stay", x.at(0, 3), 13);
    }

    private static void lateralsTakePlaceByPlace() {
        // The pipe goes from 2 to 0; places still come by their numbers.
        DrainOffice x = row(3, 100);
        x.trench(2, 0, 900, 1);
        x.pipe(0, 1, 0);
        x.rain(-1, 50);
        x.hours(1);
        check.due("all of place 0", x.at(0, 3), 0);
        check.due("all of place 1", x.at(1, 3), 0);
        check.due("20 of place 2", x.at(2, 3), 30);
        check.due("full", x.of(0, 8), 120);
    }

    private static void mainsTakeNothingFromSoil() {
        DrainOffice x = row(2, 100);
        x.trench(0, 1, 900, 1);
        x.pipe(1, 4, 0);
        x.pipe(3, 4, 0);
        x.rain(-1, 100);
        x.hours(1);
        check.due("a main stays empty", x.of(0, 8), 0);
        check.due("an outfall stays empty", x.of(1, 8), 0);
        check.due("the soil keeps it", x.all(1), 200);
        check.due("no lateral reaches", x.many(3), 2);
    }

    private static void lateralsHoldNoMore() {
        DrainOffice x = row(2, 100);
        x.trench(0, 1, 900, 1);
        x.pipe(0, 1, 0);
        x.rain(0, 70);
        x.hours(1);
        check.due("70 of 80", x.of(0, 8), 70);
        x.hours(1);
        check.due("80 of 80", x.of(0, 8), 80);
        check.due("the rest stays", x.at(0, 3), 60);
        check.due("it leads into nothing", x.of(0, 11), 0);
    }

    private static void wholePartIsGiven() {
        DrainOffice x = row(2, 99);
        x.trench(0, 1, 900, 1);
        x.pipe(0, 4, 0);
        x.rain(0, 1);
        x.hours(1);
        check.due("1 times 99 by 100", x.of(0, 8), 0);
        x.rain(0, 100);
        x.hours(1);
        check.due("101 times 99 by 100", x.of(0, 8), 99);
        check.due("2 stay", x.at(0, 3), 2);
    }

    /** Lateral 0 and main 1 along the row, outfall 2 back: 0 into 1 into 2 into ditch 0. */
    private static DrainOffice chain() {
        DrainOffice x = row(2, 100);
        x.trench(0, 1, 902, 1);
        x.pipe(0, 1, 0);
        x.trench(0, 1, 901, 1);
        x.pipe(1, 1, 0);
        x.trench(1, 0, 900, 1);
        x.pipe(3, 1, 0);
        check.due("join(0, 1)", x.join(0, 1), 1);
        check.due("join(1, 2)", x.join(1, 2), 1);
        check.due("open(2, 0)", x.open(2, 0), 1);
        x.rain(0, 50);
        return x;
    }

    private static void blockedPipesStandStill() {
        DrainOffice x = chain();
        x.block(0, true);
        x.hours(2);
        check.due("a blocked lateral takes nothing", x.of(0, 8), 0);
        check.due("so it is wet", x.at(0, 3), 100);
        x.block(0, false);
        x.hours(1);
        check.due("it takes 80 again, passes on 6", x.of(0, 8), 74);
        x.block(0, true);
        x.hours(1);
        check.due("a blocked lateral passes on nothing", x.of(0, 8), 74);
        check.due("of(0, 11)", x.of(0, 11), 0);
    }

    private static void blockedPipesStillFill() {
        DrainOffice x = chain();
        x.block(1, true);
        x.hours(3);
        check.due("water still comes into it", x.of(1, 8), 18);
        check.due("none passes", x.of(1, 11), 0);
        check.due("none behind it", x.of(2, 8), 0);
        check.due("what was passed on to it", x.of(0, 11), 6);
    }

    private static void molesEnd() {
        DrainOffice x = row(2, 100);
        x.trench(0, 1, 900, 1);
        x.pipe(2, 1, 2);
        x.pipe(1, 1, 0);
        x.join(0, 1);
        x.rain(0, 10);
        x.hours(1);
        check.due("LIFE", x.of(0, 9), 1);
        check.due("takes 10, passes on 6", x.of(0, 8), 4);
        x.hours(1);
        check.due("it is over", x.of(0, 9), 0);
        check.due("takes 10, passes on 6", x.of(0, 8), 8);
        x.hours(1);
        check.due("it stays over", x.of(0, 9), 0);
        check.due("takes nothing, but passes on", x.of(0, 8), 2);
        check.due("the soil keeps it", x.at(0, 3), 10);
        check.due("it still reaches", x.at(0, 5), 1);
        x.hours(1);
        check.due("the last of it", x.of(0, 11), 2);
        DrainOffice y = row(2, 100);
        y.trench(0, 1, 900, 1);
        y.pipe(2, 1, 3);
        y.block(0, true);
        y.hours(2);
        check.due("LIFE of a blocked one goes too", y.of(0, 9), 1);
    }

    private static void ranksPassOnInOrder() {
        DrainOffice x = chain();
        int[][] inside = {{44, 6, 0}, {74, 6, 6}, {74, 6, 6}};
        for (int hour = 0; hour < inside.length; hour++) {
            check.due("gone in hour " + hour, x.hours(1), hour == 2 ? 6 : 0);
            for (int p = 0; p < 3; p++) {
                check.due("in pipe " + p + ", hour " + hour, x.of(p, 8), inside[hour][p]);
            }
        }
        // Now the outfall has number 0 and the lateral 2: it comes to the same.
        DrainOffice y = row(2, 100);
        y.trench(1, 0, 900, 1);
        y.pipe(3, 1, 0);
        y.trench(0, 1, 901, 1);
        y.pipe(1, 1, 0);
        y.trench(0, 1, 902, 1);
        y.pipe(0, 1, 0);
        y.join(2, 1);
        y.join(1, 0);
        y.open(0, 0);
        y.rain(0, 50);
        for (int hour = 0; hour < inside.length; hour++) {
            check.due("gone in hour " + hour, y.hours(1), hour == 2 ? 6 : 0);
            for (int p = 0; p < 3; p++) {
                check.due("in pipe " + p + ", hour " + hour, y.of(p, 8), inside[hour][2 - p]);
            }
        }
    }

    private static void passingOnHasItsBounds() {
        // Main 0 holds 80; laterals 1 and 2 bear 4 * 15 each, of one rank, by numbers.
        DrainOffice x = row(2, 100);
        x.trench(0, 1, 900, 10);
        x.pipe(1, 1, 0);
        x.pipe(0, 2, 0);
        x.pipe(0, 2, 0);
        x.join(1, 0);
        x.join(2, 0);
        x.rain(-1, 200);
        x.hours(1);
        check.due("lateral 1 passes on what it bears", x.of(1, 11), 60);
        check.due("lateral 2 what there is room for", x.of(2, 11), 20);
        check.due("the main is full", x.of(0, 8), 80);
        check.due("lateral 1 took 160", x.of(1, 8), 100);
        check.due("lateral 2 took 160", x.of(2, 8), 140);
        check.due("the soil", x.all(1), 80);
        x.hours(1);
        check.due("no room", x.of(1, 11), 0);
        check.due("no room", x.of(2, 11), 0);
    }

    private static void flapsShut() {
        DrainOffice x = chain();
        x.hours(2);
        x.ditch(0, 900);
        check.due("above its last level 899", x.hours(1), 0);
        check.due("of(2, 11)", x.of(2, 11), 0);
        x.ditch(0, 899);
        check.due("at its last level", x.hours(1), 6);
        check.due("of(2, 11)", x.of(2, 11), 6);
        x.part(2);
        check.due("it leads into nothing", x.hours(2), 0);
        check.due("of(2, 11)", x.of(2, 11), 0);
        check.due("gone so far", x.all(3), 6);
    }

    private static void nothingIsLost() {
        DrainOffice x = chain();
        x.rain(1, 300);
        for (int i = 0; i < 20; i++) {
            x.hours(1 + i % 7);
            x.block(i % 3, i % 2 == 0);
            x.ditch(0, i % 5 == 0 ? 2000 : 0);
            x.open(2, i % 4);
            int told = 0;
            for (int what = 0; what <= 6; what++) {
                told += x.all(what);
            }
            check.due("all that fell", told, x.all(7));
        }
        check.due("some went to each ditch", x.all(3) * x.all(4) * x.all(5) * x.all(6) > 0 ? 1 : 0, 1);
    }

    private static void hoursCountWhatIsGone() {
        DrainOffice x = chain();
        check.due("hours(50)", x.hours(50), 288);
        check.due("hours(50)", x.hours(50), 300);
        check.due("all(3)", x.all(3), 588);
        check.due("many(2)", x.many(2), 100);
        check.due("hours(0)", x.hours(0), DrainOffice.NUMBER);
        check.due("hours(51)", x.hours(51), DrainOffice.NUMBER);
        check.due("hours(-1)", x.hours(-1), DrainOffice.NUMBER);
        check.due("many(2)", x.many(2), 100);
        x.open(2, 3);
        check.due("hours(2)", x.hours(2), 12);
        check.due("all(6)", x.all(6), 12);
        check.due("all(3)", x.all(3), 588);
    }

    private static void reachedPlaces() {
        int[] reaches = {0, 1, 2, 3, 4, 5, 8, 9, 40};
        for (int i = 0; i < reaches.length; i++) {
            DrainOffice x = new DrainOffice();
            x.land(6, 6);
            x.soils(0, 0, 0, 0, reaches[i]);
            x.trench(7, 6, 900, 1);
            x.pipe(2, 1, 1);
            x.block(0, true);
            check.due("many(3) where soil reaches " + reaches[i], x.many(3), countDry(reaches[i]));
            check.due("as many come one by one", x.dry(x.many(3)), DrainOffice.NONE);
            if (x.many(3) > 0) {
                check.due("the last one", x.dry(x.many(3) - 1), 35);
            }
        }
        DrainOffice x = new DrainOffice();
        x.land(2, 3);
        x.soils(0, 0, 0, 0, 1);
        x.trench(0, 1, 900, 1);
        x.pipe(1, 1, 0);
        check.due("a main reaches nothing", x.many(3), 6);
        x.pipe(0, 1, 0);
        int[] reached = {1, 1, 1, 1, 1, 0};
        for (int place = 0; place < 6; place++) {
            check.due("at(" + place + ", 5)", x.at(place, 5), reached[place]);
        }
        check.due("dry(0)", x.dry(0), 5);
        check.due("dry(1)", x.dry(1), DrainOffice.NONE);
        check.due("dry(-1)", x.dry(-1), DrainOffice.NONE);
        check.due("at(0, 6)", x.at(0, 6), DrainOffice.NUMBER);
        check.due("at(0, -1)", x.at(0, -1), DrainOffice.NUMBER);
        check.due("at(-1, 0)", x.at(-1, 0), DrainOffice.NUMBER);
    }

    /** Of 6 by 6 places, those too far from both (1, 0) and (1, 1). */
    private static int countDry(int reaches) {
        int count = 0;
        for (int row = 0; row < 6; row++) {
            for (int column = 0; column < 6; column++) {
                int nearest = Math.min(Math.abs(column), Math.abs(column - 1));
                count += (row - 1) * (row - 1) + nearest * nearest > reaches ? 1 : 0;
            }
        }
        return count;
    }

    private static void reachGoesByTheSoilOfThePlace() {
        DrainOffice x = new DrainOffice();
        x.land(1, 6);
        x.soils(1, 0, 0, 0, 16);
        x.soils(2, 0, 0, 0, 15);
        x.trench(0, 1, 900, 1);
        x.pipe(0, 1, 0);
        x.soil(5, 1);
        x.soil(4, 2);
        check.due("4 apart, reaches 16", x.at(5, 5), 1);
        check.due("3 apart, reaches 15", x.at(4, 5), 1);
        check.due("2 apart, reaches 0", x.at(3, 5), 0);
        x.soil(5, 2);
        check.due("4 apart, reaches 15", x.at(5, 5), 0);
        check.due("dry(0)", x.dry(0), 2);
        check.due("dry(1)", x.dry(1), 3);
        check.due("dry(2)", x.dry(2), 5);
        check.due("dry(3)", x.dry(3), DrainOffice.NONE);
    }

    private static void manyCounts() {
        DrainOffice x = new DrainOffice();
        x.land(3, 4);
        x.trench(0, 3, 900, 1);
        x.pipe(0, 1, 0);
        x.pipe(1, 1, 0);
        x.hours(3);
        x.mark(0, true);
        x.mark(11, true);
        x.mark(5, true);
        x.sight(4, true);
        x.block(1, true);
        int[] many = {12, 2, 3, 8, 3, 1, 1};
        for (int what = 0; what < many.length; what++) {
            check.due("many(" + what + ")", x.many(what), many[what]);
        }
        check.due("many(7)", x.many(7), DrainOffice.NUMBER);
        check.due("many(-1)", x.many(-1), DrainOffice.NUMBER);
        check.due("all(8)", x.all(8), DrainOffice.NUMBER);
        check.due("all(-1)", x.all(-1), DrainOffice.NUMBER);
    }
}
