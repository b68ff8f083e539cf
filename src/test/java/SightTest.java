/** Promises 24 to 26: sight, see, where. */
public final class SightTest {
    private static final Check check = new Check();

    public static void main(String[] args) {
        sightChangesOrNot();
        seeTakesWhatStands();
        whereCountsInOrder();
        whereTellsPairs();
        whereLeavesBlockedOnesOut();
        whereGoesByRainAndHours();
        whereCountsMolesDown();
        whereChangesNothing();
        whereRefuses();
        check.finish();
    }

    private static void sightChangesOrNot() {
        DrainOffice x = new DrainOffice();
        x.land(6, 6);
        check.due("not in it already", x.sight(35, false), 0);
        check.due("sight(35)", x.sight(35, true), 1);
        check.due("sight(35) again", x.sight(35, true), 0);
        check.due("sight(0)", x.sight(0, true), 1);
        check.due("many(5)", x.many(5), 2);
        check.due("out again", x.sight(35, false), 1);
        check.due("many(5)", x.many(5), 1);
        check.due("sight(36)", x.sight(36, true), DrainOffice.NUMBER);
        check.due("sight(-1)", x.sight(-1, true), DrainOffice.NUMBER);
    }

    private static void seeTakesWhatStands() {
        DrainOffice x = new DrainOffice();
        x.land(1, 4);
        x.sight(0, true);
        x.rain(1, 1);
        x.rain(3, 300);
        x.hours(1);
        check.due("see()", x.see(), 2);
        check.due("many(5)", x.many(5), 2);
        check.due("0 is out", x.sight(0, false), 0);
        check.due("1 is in", x.sight(1, true), 0);
        check.due("2 is out", x.sight(2, false), 0);
        check.due("3 is in", x.sight(3, true), 0);
    }

    /**
     * Two places, each keeping 100, with a lateral from 0 to 1 (number 0), one more (1), and a
     * main (2) that takes nothing. Rain on place 0 is 100 an hour: a lateral draws the soil dry.
     */
    private static DrainOffice twoLaterals() {
        DrainOffice x = new DrainOffice();
        x.land(1, 2);
        x.soils(0, 200, 100, 100, 0);
        x.trench(0, 1, 900, 1);
        x.pipe(0, 4, 0);
        x.pipe(0, 4, 0);
        x.pipe(1, 4, 0);
        x.rain(0, 100);
        return x;
    }

    private static void whereCountsInOrder() {
        DrainOffice x = twoLaterals();
        // Nothing stands unless both laterals are blocked.
        int[] fits = {9999, 0, 1, 2, 102, 202};
        for (int k = 0; k < fits.length; k++) {
            check.due("where(2, " + k + ")", x.where(2, k), fits[k]);
        }
        check.due("where(2, 6)", x.where(2, 6), DrainOffice.NONE);
        check.due("where(2, most)", x.where(2, Integer.MAX_VALUE), DrainOffice.NONE);
    }

    private static void whereTellsPairs() {
        DrainOffice x = twoLaterals();
        x.sight(0, true);
        check.due("only both", x.where(2, 0), 101);
        check.due("nothing else", x.where(2, 1), DrainOffice.NONE);
        x.sight(1, true);
        check.due("place 1 is never wet", x.where(2, 0), DrainOffice.NONE);
        DrainOffice y = new DrainOffice();
        y.land(1, 2);
        y.trench(0, 1, 900, 1);
        for (int p = 0; p < 20; p++) {
            y.pipe(1, 1, 0);
        }
        check.due("the last alone", y.where(1, 20), 19);
        check.due("the first pair", y.where(1, 21), 101);
        check.due("the last of 0", y.where(1, 39), 119);
        check.due("the first of 1", y.where(1, 40), 202);
        check.due("the last pair", y.where(1, 210), 1919);
        check.due("no more", y.where(1, 211), DrainOffice.NONE);
    }

    private static void whereLeavesBlockedOnesOut() {
        DrainOffice x = twoLaterals();
        x.sight(0, true);
        x.block(1, true);
        check.due("0 beside the blocked one", x.where(2, 0), 0);
        check.due("0 and the main", x.where(2, 1), 102);
        check.due("no more", x.where(2, 2), DrainOffice.NONE);
        x.block(0, true);
        check.due("no pipe", x.where(2, 0), 9999);
        check.due("the main", x.where(2, 1), 2);
        check.due("no more", x.where(2, 2), DrainOffice.NONE);
    }

    private static void whereGoesByRainAndHours() {
        DrainOffice x = twoLaterals();
        x.sight(0, true);
        check.due("in one hour the soil takes all", x.where(1, 0), DrainOffice.NONE);
        x.rain(0, 101);
        check.due("but not 101", x.where(1, 0), 9999);
        x.rain(0, 100);
        x.block(0, true);
        x.block(1, true);
        x.hours(1);
        check.due("from the water as it is", x.where(1, 0), 9999);
        x.block(0, false);
        x.block(1, false);
        x.sight(0, false);
        x.rain(0, 10);
        check.due("the soil is full: 10 stand", x.where(1, 0), DrainOffice.NONE);
        check.due("drained in the first hour", x.where(2, 0), 9999);
        check.due("where(20, 0)", x.where(20, 0), 9999);
    }

    private static void whereCountsMolesDown() {
        DrainOffice x = new DrainOffice();
        x.land(1, 2);
        x.soils(0, 200, 100, 100, 0);
        x.trench(0, 1, 900, 1);
        x.pipe(2, 4, 2);
        x.rain(0, 100);
        check.due("it drains two hours, the third fills the soil", x.where(3, 0), 9999);
        check.due("blocked, water stands then", x.where(3, 1), DrainOffice.NONE);
        x.sight(0, true);
        check.due("blocked", x.where(3, 0), 0);
        check.due("over, the fourth stands", x.where(4, 0), 9999);
        check.due("blocked, too", x.where(4, 1), 0);
        check.due("its LIFE is as it was", x.of(0, 9), 2);
    }

    private static void whereChangesNothing() {
        DrainOffice x = twoLaterals();
        x.pipe(3, 1, 0);
        x.join(0, 3);
        x.open(3, 1);
        x.hours(3);
        java.util.List<Integer> before = Check.told(x);
        x.where(20, 3);
        check.due("behind where()", Check.told(x), before);
    }

    private static void whereRefuses() {
        DrainOffice x = twoLaterals();
        x.rain(0, 0);
        check.due("where(0, 0)", x.where(0, 0), DrainOffice.NUMBER);
        check.due("where(21, 0)", x.where(21, 0), DrainOffice.NUMBER);
        check.due("where(-1, 0)", x.where(-1, 0), DrainOffice.NUMBER);
        check.due("where(1, -1)", x.where(1, -1), DrainOffice.NUMBER);
        check.due("where(20, 0)", x.where(20, 0), 9999);
        x.sight(1, true);
        check.due("NUMBER ahead of NONE", x.where(21, 0), DrainOffice.NUMBER);
        check.due("NUMBER ahead of NONE", x.where(1, -1), DrainOffice.NUMBER);
        check.due("NONE", x.where(1, 0), DrainOffice.NONE);
    }
}
