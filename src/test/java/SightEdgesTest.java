/** Each sentence of promises 24 to 26 that names a boundary case, with a test of its own. */
public final class SightEdgesTest {
    private static final int NUMBER = DrainOffice.NUMBER;
    private static final int NONE = DrainOffice.NONE;
    private static final Check check = new Check();

    public static void main(String[] args) {
        sightAnswersOneOrNought();
        sightOfTheFirstAndTheLastPlace();
        seeOfNone();
        seeOfAll();
        seeForgetsWhatWasTold();
        seeLooksAtWhatStandsAlone();
        whereWithoutPipes();
        whereWithEveryPipeFree();
        whereWithEveryPipeBlocked();
        whereWithOneOrTwoPipesFree();
        whereCountsFromNought();
        whereRefusesHoursAndNumbers();
        whereTellsThePipeThatFits();
        whereTellsPairsByBothNumbers();
        whereCountsLifeInTheTrial();
        whereLeavesAllAsItIs();
        check.finish();
    }

    private static void sightAnswersOneOrNought() {
        check.sentence("Promise 24: A PLACE is in THE SIGHT, or not: 1 if that changes something, else 0");
        DrainOffice x = Offices.land(6, 6);
        for (int place = 0; place < 36; place++) {
            check.due("not so at first", x.sight(place, false), 0);
            check.due("how many yet", x.many(5), place);
            check.due("sight", x.sight(place, true), 1);
            check.due("sight again", x.sight(place, true), 0);
        }
        check.due("all", x.many(5), 36);
        for (int place = 35; place >= 0; place--) {
            check.due("no more", x.sight(place, false), 1);
            check.due("no more, again", x.sight(place, false), 0);
            check.due("how many are left", x.many(5), place);
        }
    }

    private static void sightOfTheFirstAndTheLastPlace() {
        check.sentence("Promise 24: NUMBER: there is none such");
        DrainOffice x = Offices.land(6, 6);
        check.ends("sight(.., true)", 0, 35, n -> x.sight(n, true), 1, NUMBER);
        check.ends("sight(.., false)", 0, 35, n -> x.sight(n, false), 1, NUMBER);
        DrainOffice y = Offices.land(2, 3);
        check.ends("sight(.., true) of six", 0, 5, n -> y.sight(n, true), 1, NUMBER);
        check.due("MARKED is another thing", y.many(4), 0);
        check.due("two are in it", y.many(5), 2);
    }

    private static void seeOfNone() {
        check.sentence("Promise 25: THE SIGHT becomes all PLACES with water that STANDS: how many (none)");
        DrainOffice x = Offices.land(6, 6);
        check.due("see()", x.see(), 0);
        for (int place = 0; place < 36; place++) {
            x.sight(place, true);
        }
        check.due("see() again", x.see(), 0);
        check.due("many(5)", x.many(5), 0);
        check.due("see() of a new object", new DrainOffice().see(), 0);
    }

    private static void seeOfAll() {
        check.sentence("Promise 25: how many (as many as may be)");
        DrainOffice x = Offices.land(6, 6);
        x.rain(-1, 1);
        x.hours(1);
        check.due("see()", x.see(), 36);
        check.due("many(5)", x.many(5), 36);
        for (int place = 0; place < 36; place++) {
            check.due("sight(" + place + ", true)", x.sight(place, true), 0);
        }
    }

    private static void seeForgetsWhatWasTold() {
        check.sentence("Promise 25: THE SIGHT becomes (what was in it is so no more)");
        DrainOffice x = Offices.land(1, 3);
        x.sight(0, true);
        x.sight(1, true);
        x.rain(1, 5);
        x.rain(2, 5);
        x.hours(1);
        check.due("see()", x.see(), 2);
        check.due("0 is out", x.sight(0, false), 0);
        check.due("1 is in", x.sight(1, true), 0);
        check.due("2 is in", x.sight(2, true), 0);
        x.rain(0, 5);
        x.hours(1);
        check.due("it does not go with the water", x.many(5), 2);
    }

    private static void seeLooksAtWhatStandsAlone() {
        check.sentence("Promise 25: water that STANDS (1 is some; WET, RAIN and PIPES do not count)");
        DrainOffice x = Offices.thirsty(1, 4);
        x.soils(1, 200, 0, 1000, 0);
        x.soil(2, 1);
        x.soil(3, 1);
        Offices.lay(x, 0, 1, 900, 1, Offices.LATERAL);
        x.rain(0, 10);
        x.rain(2, 200);
        x.rain(3, 201);
        x.hours(1);
        x.rain(1, 300);
        check.due("see()", x.see(), 1);
        check.due("drained: out", x.sight(0, false), 0);
        check.due("RAIN to come: out", x.sight(1, false), 0);
        check.due("WET: out", x.sight(2, false), 0);
        check.due("1 STANDS: in", x.sight(3, true), 0);
    }

    private static void whereWithoutPipes() {
        check.sentence("Promise 26: no PIPE (answered as 9999)");
        DrainOffice x = Offices.land(6, 6);
        check.due("where(1, 0)", x.where(1, 0), 9999);
        check.due("where(1, 1)", x.where(1, 1), NONE);
        x.sight(35, true);
        check.due("nothing FITS", x.where(1, 0), NONE);
    }

    /** So many mains, which hold no water: each trial FITS. */
    private static DrainOffice mains(int count) {
        DrainOffice x = Offices.land(1, 2);
        x.trench(0, 1, 900, 1);
        for (int p = 0; p < count; p++) {
            x.pipe(1, 1, 0);
        }
        return x;
    }

    private static void whereWithEveryPipeFree() {
        check.sentence("Promise 26: no PIPE, each PIPE alone, by numbers, each pair p < q, by p, then by q");
        DrainOffice x = mains(20);
        check.due("where(1, 0)", x.where(1, 0), 9999);
        int k = 1;
        for (int p = 0; p < 20; p++) {
            check.due("where(1, " + k + ")", x.where(1, k), p);
            k++;
        }
        for (int p = 0; p < 20; p++) {
            for (int q = p + 1; q < 20; q++) {
                check.due("where(1, " + k + ")", x.where(1, k), 100 * (p + 1) + q);
                k++;
            }
        }
        check.due("where(1, 211)", x.where(1, k), NONE);
        check.due("where(20, 210)", x.where(20, 210), 1919);
    }

    private static void whereWithEveryPipeBlocked() {
        check.sentence("Promise 26: each PIPE alone that isn't BLOCKED (all are)");
        DrainOffice x = mains(20);
        for (int p = 0; p < 20; p++) {
            x.block(p, true);
        }
        check.due("where(1, 0)", x.where(1, 0), 9999);
        check.due("where(1, 1)", x.where(1, 1), NONE);
    }

    private static void whereWithOneOrTwoPipesFree() {
        check.sentence("Promise 26: each pair of such (that aren't BLOCKED)");
        DrainOffice x = mains(20);
        for (int p = 0; p < 20; p++) {
            x.block(p, p != 7);
        }
        check.due("no PIPE", x.where(1, 0), 9999);
        check.due("the one", x.where(1, 1), 7);
        check.due("no pair", x.where(1, 2), NONE);
        x.block(19, false);
        int[] fits = {9999, 7, 19, 819, NONE};
        for (int k = 0; k < fits.length; k++) {
            check.due("where(1, " + k + ")", x.where(1, k), fits[k]);
        }
        x.block(0, false);
        int[] more = {9999, 0, 7, 19, 107, 119, 819, NONE};
        for (int k = 0; k < more.length; k++) {
            check.due("where(1, " + k + ")", x.where(1, k), more[k]);
        }
    }

    private static void whereCountsFromNought() {
        check.sentence("Promise 26: The k-th (from 0 on); NONE: there is none such");
        DrainOffice x = mains(1);
        check.due("where(1, 0)", x.where(1, 0), 9999);
        check.due("where(1, 1)", x.where(1, 1), 0);
        check.due("where(1, 2)", x.where(1, 2), NONE);
        check.due("where(1, most)", x.where(1, Integer.MAX_VALUE), NONE);
        check.due("where(1, -1)", x.where(1, -1), NUMBER);
        check.due("where(1, least)", x.where(1, Integer.MIN_VALUE), NUMBER);
    }

    private static void whereRefusesHoursAndNumbers() {
        check.sentence("Promise 26: NUMBER: h isn't 1 to 20, or k below 0; NONE");
        DrainOffice x = mains(3);
        check.ends("where(.., 0)", 1, 20, n -> x.where(n, 0), 9999, NUMBER);
        check.ends("where(.., 6)", 1, 20, n -> x.where(n, 6), 202, NUMBER);
        check.ends("where(.., 7): NUMBER ahead of NONE", 1, 20, n -> x.where(n, 7), NONE, NUMBER);
        check.ends("where(.., -1)", 1, 20, n -> x.where(n, -1), NUMBER, NUMBER);
        x.sight(0, true);
        check.ends("nothing FITS", 1, 20, n -> x.where(n, 0), NONE, NUMBER);
    }

    /**
     * Three places, a lateral over each pair of neighbours (0: places 0 and 1, 1: 1 and 2). Each
     * soil keeps 10 and gives all; with RAIN of 10 water STANDS in the second hour where no
     * lateral drains.
     */
    private static DrainOffice neighbours() {
        DrainOffice x = Offices.land(1, 3);
        x.soils(0, 200, 100, 10, 0);
        Offices.lay(x, 0, 1, 900, 1, Offices.LATERAL);
        Offices.lay(x, 1, 2, 900, 1, Offices.LATERAL);
        x.rain(-1, 10);
        return x;
    }

    private static void whereTellsThePipeThatFits() {
        check.sentence("Promise 26: each PIPE alone that FITS when TRIED for h hours");
        DrainOffice x = neighbours();
        check.due("dry all over: no PIPE", x.where(2, 0), 9999);
        check.due("nothing else", x.where(2, 1), NONE);
        x.sight(0, true);
        check.due("0 is wet: PIPE 0", x.where(2, 0), 0);
        check.due("nothing else", x.where(2, 1), NONE);
        check.due("not in the first hour", x.where(1, 0), NONE);
        x.sight(0, false);
        x.sight(2, true);
        check.due("2 is wet: PIPE 1", x.where(2, 0), 1);
        check.due("nothing else", x.where(2, 1), NONE);
        x.sight(2, false);
        x.sight(1, true);
        check.due("1 alone: nothing", x.where(2, 0), NONE);
    }

    private static void whereTellsPairsByBothNumbers() {
        check.sentence("Promise 26: (100 (p and 1) and q)");
        DrainOffice x = neighbours();
        for (int place = 0; place < 3; place++) {
            x.sight(place, true);
        }
        check.due("all are wet: both", x.where(2, 0), 101);
        check.due("nothing else", x.where(2, 1), NONE);
        x.block(0, true);
        check.due("0 is BLOCKED: PIPE 1 beside it", x.where(2, 0), 1);
        check.due("nothing else", x.where(2, 1), NONE);
        x.block(1, true);
        check.due("both are: no PIPE", x.where(2, 0), 9999);
        check.due("nothing else", x.where(2, 1), NONE);
    }

    private static void whereCountsLifeInTheTrial() {
        check.sentence("Terms 3 and promise 26: AN HOUR of a trial takes LIFE of a MOLE as any does");
        DrainOffice x = Offices.land(1, 2);
        x.soils(0, 200, 100, 10, 0);
        x.trench(0, 1, 900, 1);
        x.pipe(2, 4, 5);
        x.rain(0, 10);
        for (int h = 1; h <= 20; h++) {
            check.due("nothing STANDS till hour 6, h = " + h, x.where(h, 0), h <= 6 ? 9999 : NONE);
            check.due("LIFE stays", x.of(0, 9), 5);
        }
        x.sight(0, true);
        check.due("hour 6: the MOLE, BLOCKED", x.where(6, 0), 0);
        check.due("hour 7: no PIPE", x.where(7, 0), 9999);
        check.due("hour 7: the MOLE, too", x.where(7, 1), 0);
    }

    private static void whereLeavesAllAsItIs() {
        check.sentence("Promise 26: TRIED (nothing of it stays)");
        int[] ks = {0, 1, 2, 5, 10};
        for (int k : ks) {
            Twins.unchanged(check, Offices::busy, "where(20, " + k + ")", Offices.busy().where(20, k),
                    x -> x.where(20, k));
        }
    }
}
