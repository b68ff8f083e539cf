/** Each sentence of promises 15 to 20 that names a boundary case, with a test of its own. */
public final class WaterEdgesTest {
    private static final int NUMBER = DrainOffice.NUMBER;
    private static final int NONE = DrainOffice.NONE;
    private static final Check check = new Check();

    public static void main(String[] args) {
        rainOfTheFirstAndTheLastPlace();
        rainOfAllPlaces();
        hoursAreOneToFifty();
        hoursAnswerWhatWentToDitches();
        hoursInOneCallOrInMany();
        atKnowsSixThings();
        atTellsReachOfBlockedAndOverOnes();
        allKnowsEightThings();
        allTellsEachDitch();
        allTellsSinceTheLandWasNew();
        allLosesNoDrop();
        allBearsTheMost();
        manyKnowsSevenThings();
        manyCountsNoneAndAll();
        manyCountsHoursSinceTheLandWasNew();
        dryCountsFromNought();
        dryOfNone();
        dryOfAll();
        check.finish();
    }

    private static void rainOfTheFirstAndTheLastPlace() {
        check.sentence("Promise 15: NUMBER: there is no such PLACE, or it isn't 0 to 300");
        DrainOffice x = Offices.land(6, 6);
        check.due("rain(0, 300)", x.rain(0, 300), 1);
        check.due("rain(35, 300)", x.rain(35, 300), 1);
        check.due("rain(36, 300)", x.rain(36, 300), NUMBER);
        check.due("rain(-2, 300)", x.rain(-2, 300), NUMBER);
        check.ends("rain(17, ..)", 0, 300, n -> x.rain(17, n), 1, NUMBER);
        for (int place = 0; place < 36; place++) {
            boolean rains = place == 0 || place == 17 || place == 35;
            check.due("at(" + place + ", 4)", x.at(place, 4), rains ? 300 : 0);
        }
        DrainOffice y = Offices.land(2, 2);
        check.due("rain(3, 1) of four", y.rain(3, 1), 1);
        check.due("rain(4, 1) of four", y.rain(4, 1), NUMBER);
    }

    private static void rainOfAllPlaces() {
        check.sentence("Promise 15: The RAIN of a PLACE, or of all (-1)");
        DrainOffice x = Offices.land(6, 6);
        check.ends("rain(-1, ..)", 0, 300, n -> x.rain(-1, n), 1, NUMBER);
        x.rain(4, 0);
        check.due("refused", x.rain(-1, 301), NUMBER);
        for (int place = 0; place < 36; place++) {
            check.due("at(" + place + ", 4)", x.at(place, 4), place == 4 ? 0 : 300);
        }
        check.due("none on all", x.rain(-1, 0), 1);
        for (int place = 0; place < 36; place++) {
            check.due("at(" + place + ", 4)", x.at(place, 4), 0);
        }
        DrainOffice y = new DrainOffice();
        check.due("on one PLACE", y.rain(-1, 7), 1);
        check.due("at(0, 4)", y.at(0, 4), 7);
        y.land(6, 6);
        check.due("a greater land has none", y.at(35, 4), 0);
    }

    private static void hoursAreOneToFifty() {
        check.sentence("Promise 16: NUMBER: n isn't 1 to 50");
        DrainOffice x = Offices.land(1, 1);
        x.rain(0, 1);
        check.ends("hours(..)", 1, 50, n -> x.hours(n), 0, NUMBER);
        check.due("51 HOURS passed", x.many(2), 51);
        check.due("51 fell", x.all(7), 51);
    }

    private static void hoursAnswerWhatWentToDitches() {
        check.sentence("Promise 16: how much went to DITCHES in them");
        DrainOffice x = Offices.drained();
        check.due("none", x.hours(50), 0);
        x.rain(0, 1);
        check.due("none in the first HOUR of RAIN", x.hours(1), 0);
        check.due("1 in the second", x.hours(1), 1);
        check.due("50 in fifty", x.hours(50), 50);
        x.rain(0, 0);
        check.due("the last one", x.hours(50), 1);
        check.due("no more", x.hours(50), 0);
        check.due("all", x.all(3), 52);
        DrainOffice y = Offices.thirsty(1, 2);
        for (int i = 0; i < 4; i++) {
            Offices.lay(y, 0, 1, 930, 1, Offices.LATERAL);
            Offices.lay(y, 1, 0, 900, 1, Offices.OUTFALL);
            y.join(2 * i, 2 * i + 1);
            y.open(2 * i + 1, i);
        }
        y.rain(-1, 200);
        y.hours(1);
        check.due("to all four in one HOUR", y.hours(1), 24);
    }

    private static void hoursInOneCallOrInMany() {
        check.sentence("Promise 16: n HOURS pass");
        for (int n : new int[] {1, 2, 49, 50}) {
            DrainOffice x = Offices.busy();
            DrainOffice y = Offices.busy();
            int gone = 0;
            for (int hour = 0; hour < n; hour++) {
                gone += y.hours(1);
            }
            check.due("hours(" + n + ")", x.hours(n), gone);
            check.due("behind hours(" + n + ")", Check.told(x), Check.told(y));
        }
    }

    private static void atKnowsSixThings() {
        check.sentence("Promise 17: NUMBER: there is none such, another what");
        DrainOffice x = Offices.land(6, 6);
        x.height(35, 1234);
        x.soil(35, 3);
        x.rain(35, 56);
        x.hours(2);
        int[] at = {1234, 3, 112, 0, 56, 0};
        for (int what = 0; what < at.length; what++) {
            check.due("at(35, " + what + ")", x.at(35, what), at[what]);
            check.due("at(36, " + what + ")", x.at(36, what), NUMBER);
            check.due("at(-1, " + what + ")", x.at(-1, what), NUMBER);
        }
        check.due("at(0, 6)", x.at(0, 6), NUMBER);
        check.due("at(0, -1)", x.at(0, -1), NUMBER);
        check.due("at(35, 6)", x.at(35, 6), NUMBER);
    }

    private static void atTellsReachOfBlockedAndOverOnes() {
        check.sentence("Promise 17: 5 1 if some LATERAL REACHES it (BLOCKED or over ones, too), else 0");
        DrainOffice x = Offices.land(1, 6);
        check.due("no LATERAL", x.at(0, 5), 0);
        Offices.lay(x, 0, 5, 900, 1, Offices.MAIN);
        Offices.lay(x, 0, 5, 900, 1, Offices.OUTFALL);
        check.due("MAINS alone", x.at(0, 5), 0);
        x.trench(0, 1, 900, 1);
        x.pipe(2, 1, 1);
        check.due("a MOLE", x.at(0, 5), 1);
        x.hours(1);
        check.due("is over", x.of(2, 9), 0);
        check.due("over, it REACHES", x.at(0, 5), 1);
        x.block(2, true);
        check.due("over and BLOCKED, it REACHES", x.at(0, 5), 1);
        Offices.lay(x, 4, 5, 900, 1, Offices.LATERAL);
        x.block(3, true);
        check.due("BLOCKED, it REACHES", x.at(5, 5), 1);
        check.due("between them", x.at(2, 5), 0);
        check.due("many(3)", x.many(3), 2);
        check.due("dry(0)", x.dry(0), 2);
        check.due("dry(1)", x.dry(1), 3);
        check.due("dry(2)", x.dry(2), NONE);
    }

    private static void allKnowsEightThings() {
        check.sentence("Promise 18: NUMBER: another what");
        DrainOffice x = Offices.drained();
        x.soils(0, 40, 50, 45, 0);
        x.rain(0, 50);
        x.hours(2);
        // Hour 1: 40 go in, 20 drain, 6 pass on. Hour 2: 25 go in, 22 drain, 6 pass on, 6 are GONE.
        int[] all = {35, 23, 36, 6, 0, 0, 0, 100};
        for (int what = 0; what < all.length; what++) {
            check.due("all(" + what + ")", x.all(what), all[what]);
        }
        check.due("all(8)", x.all(8), NUMBER);
        check.due("all(-1)", x.all(-1), NUMBER);
    }

    private static void allTellsEachDitch() {
        check.sentence("Promise 18: 3 to 6 is GONE to DITCH what - 3");
        DrainOffice x = Offices.drained();
        x.rain(0, 50);
        x.hours(1);
        int[] gone = new int[4];
        for (int turn = 0; turn < 8; turn++) {
            int ditch = turn * 3 % 4;
            x.open(1, ditch);
            gone[ditch] += x.hours(1 + turn);
            for (int d = 0; d < 4; d++) {
                check.due("all(" + (3 + d) + ")", x.all(3 + d), gone[d]);
            }
        }
        check.due("6 an hour", gone[0] + gone[1] + gone[2] + gone[3], 6 * 36);
    }

    private static void allTellsSinceTheLandWasNew() {
        check.sentence("Promise 18: (since the land was new), 7 fell as RAIN since then");
        DrainOffice x = Offices.drained();
        x.rain(-1, 300);
        x.hours(50);
        check.due("fell", x.all(7), 30000);
        check.due("GONE", x.all(3), 49 * 6);
        x.land(1, 2);
        for (int what = 0; what <= 7; what++) {
            check.due("behind land: all(" + what + ")", x.all(what), 0);
        }
        x.rain(1, 2);
        x.hours(3);
        check.due("fell since then", x.all(7), 6);
    }

    private static void allLosesNoDrop() {
        check.sentence("What it is: no drop of it lost");
        DrainOffice x = Offices.busy();
        for (int turn = 0; turn < 25; turn++) {
            x.rain(turn % 4, turn * 37 % 301);
            x.block(turn % 4, turn % 3 == 0);
            x.ditch(1, turn % 5 == 0 ? 2000 : 0);
            x.soils(turn % 4, turn * 7 % 201, turn * 13 % 101, turn * 31 % 1001, 0);
            x.hours(1 + turn % 4);
            int told = 0;
            for (int what = 0; what <= 6; what++) {
                told += x.all(what);
            }
            check.due("all that fell is somewhere", told, x.all(7));
        }
    }

    private static void allBearsTheMost() {
        check.sentence("What it is: at most 512 calls (the most RAIN on the most PLACES, HOUR after HOUR)");
        DrainOffice x = new DrainOffice();
        x.land(6, 6);
        x.rain(-1, 300);
        int fell = 0;
        for (int call = 3; call <= 508; call++) {
            check.due("call " + call, x.hours(50), 0);
            fell += 36 * 300 * 50;
        }
        check.due("call 509: what fell", x.all(7), fell);
        check.due("call 510: what STANDS", x.all(0), fell);
        check.due("call 511: HOURS", x.many(2), 506 * 50);
        check.due("call 512: on one PLACE", x.at(35, 2), 506 * 50 * 300);
    }

    private static void manyKnowsSevenThings() {
        check.sentence("Promise 19: NUMBER: another what");
        DrainOffice x = Offices.busy();
        int[] many = {4, 4, 3, 0, 2, 4, 1};
        for (int what = 0; what < many.length; what++) {
            check.due("many(" + what + ")", x.many(what), many[what]);
        }
        check.due("many(7)", x.many(7), NUMBER);
        check.due("many(-1)", x.many(-1), NUMBER);
    }

    private static void manyCountsNoneAndAll() {
        check.sentence("Promise 19: How many (none, and as many as may be)");
        DrainOffice x = Offices.land(6, 6);
        int[] none = {36, 0, 0, 36, 0, 0, 0};
        for (int what = 0; what < none.length; what++) {
            check.due("many(" + what + ")", x.many(what), none[what]);
        }
        for (int place = 0; place < 36; place++) {
            x.mark(place, true);
            x.sight(place, true);
        }
        for (int row = 0; row < 6; row++) {
            Offices.lay(x, 6 * row, 6 * row + 5, 900, 1, Offices.LATERAL);
            check.due("PLACES that none REACHES", x.many(3), 30 - 6 * row);
        }
        for (int p = 6; p < 20; p++) {
            x.pipe(1, 1, 0);
        }
        for (int p = 0; p < 20; p++) {
            x.block(p, true);
        }
        int[] most = {36, 20, 0, 0, 36, 36, 20};
        for (int what = 0; what < most.length; what++) {
            check.due("many(" + what + ")", x.many(what), most[what]);
        }
    }

    private static void manyCountsHoursSinceTheLandWasNew() {
        check.sentence("Promise 19: 2 HOURS that passed since the land was new");
        DrainOffice x = new DrainOffice();
        x.hours(50);
        x.hours(1);
        check.due("51 on the first land", x.many(2), 51);
        check.due("a refused call", x.hours(51), NUMBER);
        check.due("none passed in it", x.many(2), 51);
        x.where(20, 0);
        check.due("none in a trial", x.many(2), 51);
        x.land(1, 1);
        check.due("none on the new land", x.many(2), 0);
    }

    private static void dryCountsFromNought() {
        check.sentence("Promise 20: PLACE i (from 0 on) of those that no LATERAL REACHES");
        DrainOffice x = Offices.land(3, 3);
        Offices.lay(x, 1, 7, 900, 1, Offices.LATERAL);
        int[] unreached = {0, 2, 3, 5, 6, 8};
        for (int i = 0; i < unreached.length; i++) {
            check.due("dry(" + i + ")", x.dry(i), unreached[i]);
        }
        check.due("dry(6)", x.dry(6), NONE);
        check.due("dry(-1)", x.dry(-1), NONE);
        check.due("dry(least)", x.dry(Integer.MIN_VALUE), NONE);
        check.due("dry(most)", x.dry(Integer.MAX_VALUE), NONE);
    }

    private static void dryOfNone() {
        check.sentence("Promise 20: NONE: there is none such (all are REACHED)");
        DrainOffice x = Offices.land(1, 6);
        Offices.lay(x, 5, 0, 900, 1, Offices.MOLE);
        check.due("many(3)", x.many(3), 0);
        check.due("dry(0)", x.dry(0), NONE);
        check.due("dry(-1)", x.dry(-1), NONE);
    }

    private static void dryOfAll() {
        check.sentence("Promise 20: PLACE i of those that no LATERAL REACHES (all of 36)");
        DrainOffice x = Offices.land(6, 6);
        for (int i = 0; i < 36; i++) {
            check.due("dry(" + i + ")", x.dry(i), i);
        }
        check.due("dry(36)", x.dry(36), NONE);
    }
}
