/** Terms 3: what is REACHED, COST and THE TREE, PEAK, THE SIGHT and what FITS. */
public final class TermsPlacesTest {
    private static final Check check = new Check();

    public static void main(String[] args) {
        reachIsNotAbove();
        reachGoesToTheFurthestPlace();
        reachIsOfThePlacesSoil();
        reachIsFromAnyStep();
        costCountsRowsAndColumns();
        costCountsHeightsBothWays();
        treeTakesTheLeastCostFirst();
        treeTakesLikeOnesByTheLesserPlace();
        treeTakesLikeOnesThenByTheGreater();
        treeLeavesOutWhatHangsTogether();
        treeHasOnePairLessThanPlaces();
        peakIsTheSum();
        peakIsNotMoreThanItBears();
        peakIsOfWhatLeadsIntoItItself();
        fitsJustThosePlaces();
        fitsNoneAndAll();
        oneDropStands();
        triedFromTheWaterAsItIs();
        triedWithTheRainAsItIs();
        triedBesideThoseThatAreBlocked();
        triedForSoManyHours();
        check.finish();
    }

    /** A land of 6 by 6 with a lateral on places 0 and 1, all of SOIL 0, which reaches so far. */
    private static DrainOffice reaching(int reaches) {
        DrainOffice x = Offices.land(6, 6);
        x.soils(0, 0, 0, 0, reaches);
        Offices.lay(x, 0, 1, 900, 1, Offices.LATERAL);
        return x;
    }

    private static int squaresOff(int place) {
        int rows = place / 6;
        int columns = Math.max(0, place % 6 - 1);
        return rows * rows + columns * columns;
    }

    private static void reachIsNotAbove() {
        check.sentence("Terms 3: the square .. together are not above what the PLACE's SOIL REACHES");
        for (int reaches = 0; reaches <= 40; reaches++) {
            DrainOffice x = reaching(reaches);
            int unreached = 0;
            for (int place = 0; place < 36; place++) {
                boolean is = squaresOff(place) <= reaches;
                check.due("reaches " + reaches + ": at(" + place + ", 5)", x.at(place, 5), is ? 1 : 0);
                unreached += is ? 0 : 1;
            }
            check.due("reaches " + reaches + ": many(3)", x.many(3), unreached);
        }
    }

    private static void reachGoesToTheFurthestPlace() {
        check.sentence("Terms 3: REACHED, at the most that a SOIL REACHES (40) and the least (0)");
        check.due("40: all but the furthest, 25 and 16 off", reaching(40).many(3), 1);
        check.due("that one", reaching(40).dry(0), 35);
        check.due("0: its own steps alone", reaching(0).many(3), 34);
        check.due("the first that is not", reaching(0).dry(0), 2);
    }

    private static void reachIsOfThePlacesSoil() {
        check.sentence("Terms 3: what the PLACE's SOIL REACHES (not the step's)");
        DrainOffice x = reaching(40);
        x.soils(1, 0, 0, 0, 3);
        x.soils(2, 0, 0, 0, 4);
        x.soil(12, 1);
        check.due("4 off, reaches 3", x.at(12, 5), 0);
        x.soil(12, 2);
        check.due("4 off, reaches 4", x.at(12, 5), 1);
        x.soil(0, 3);
        x.soil(1, 3);
        check.due("whatever the step's soil reaches", x.at(12, 5), 1);
        check.due("a step is always reached", x.at(0, 5), 1);
    }

    private static void reachIsFromAnyStep() {
        check.sentence("Terms 3: REACHED by a LATERAL if for some step of that");
        for (int way = 0; way < 2; way++) {
            DrainOffice x = Offices.land(6, 6);
            x.soils(0, 0, 0, 0, 1);
            Offices.lay(x, way == 0 ? 12 : 17, way == 0 ? 17 : 12, 900, 1, Offices.MOLE);
            for (int place = 0; place < 36; place++) {
                int row = place / 6;
                check.due("at(" + place + ", 5)", x.at(place, 5), row >= 1 && row <= 3 ? 1 : 0);
            }
        }
    }

    private static int costOf(int a, int b, int heightA, int heightB) {
        DrainOffice x = Offices.land(6, 6);
        x.height(a, heightA);
        x.height(b, heightB);
        x.mark(a, true);
        x.mark(b, true);
        check.due("the pair", x.pair(0), 100 * Math.min(a, b) + Math.max(a, b));
        return x.tree();
    }

    private static void costCountsRowsAndColumns() {
        check.sentence("Terms 3: COST: 10 times (how many ROWS, and how many COLUMNS they are apart, together)");
        check.due("beside", costOf(0, 1, 1000, 1000), 10);
        check.due("below", costOf(0, 6, 1000, 1000), 10);
        check.due("from one ROW's end to the next one's start", costOf(5, 6, 1000, 1000), 60);
        check.due("from corner to corner", costOf(0, 35, 1000, 1000), 100);
        check.due("from the other corner to its opposite", costOf(30, 5, 1000, 1000), 100);
        check.due("two and one", costOf(14, 3, 1000, 1000), 30);
    }

    private static void costCountsHeightsBothWays() {
        check.sentence("Terms 3: and by how much their HEIGHTS differ");
        check.due("by 1 up", costOf(0, 1, 1000, 1001), 11);
        check.due("by 1 down", costOf(0, 1, 1001, 1000), 11);
        check.due("the most, up", costOf(0, 35, 0, 2000), 2100);
        check.due("the most, down", costOf(0, 35, 2000, 0), 2100);
    }

    /** A row of places with these heights, all of them marked. */
    private static DrainOffice markedRow(int... heights) {
        DrainOffice x = Offices.land(1, heights.length);
        for (int place = heights.length - 1; place >= 0; place--) {
            x.height(place, heights[place]);
            x.mark(place, true);
        }
        return x;
    }

    private static void duePairs(DrainOffice x, int... pairs) {
        for (int i = 0; i < pairs.length; i++) {
            check.due("pair(" + i + ")", x.pair(i), pairs[i]);
        }
        check.due("no more pairs", x.pair(pairs.length), DrainOffice.NONE);
    }

    private static void treeTakesTheLeastCostFirst() {
        check.sentence("Terms 3: THE TREE: pairs by their COST");
        DrainOffice x = markedRow(500, 502, 501, 600);
        duePairs(x, 102, 1, 203);
        check.due("11, 12 and 109", x.tree(), 132);
        x.height(0, 503);
        duePairs(x, 1, 102, 203);
    }

    private static void treeTakesLikeOnesByTheLesserPlace() {
        check.sentence("Terms 3: of like ones by the lesser PLACE");
        duePairs(markedRow(7, 7, 7, 7, 7, 7), 1, 102, 203, 304, 405);
        DrainOffice x = Offices.land(2, 3);
        for (int place : new int[] {5, 4, 1, 0}) {
            x.mark(place, true);
        }
        duePairs(x, 1, 104, 405);
    }

    private static void treeTakesLikeOnesThenByTheGreater() {
        check.sentence("Terms 3: then by the greater");
        DrainOffice x = Offices.land(2, 2);
        for (int place = 3; place >= 0; place--) {
            x.mark(place, true);
        }
        duePairs(x, 1, 2, 103);
        DrainOffice y = Offices.land(3, 3);
        for (int place : new int[] {7, 5, 4, 3, 1}) {
            y.mark(place, true);
        }
        duePairs(y, 104, 304, 405, 407);
    }

    private static void treeLeavesOutWhatHangsTogether() {
        check.sentence("Terms 3: each being taken if it joins what does not hang together yet");
        DrainOffice x = Offices.land(2, 3);
        for (int place = 0; place < 6; place++) {
            x.mark(place, true);
        }
        duePairs(x, 1, 3, 102, 104, 205);
        check.due("tree()", x.tree(), 50);
        duePairs(markedRow(0, 2000, 0, 2000), 2, 103, 1);
    }

    private static void treeHasOnePairLessThanPlaces() {
        check.sentence("Terms 3: pairs of MARKED PLACES by which all hang together (none to 36)");
        DrainOffice x = Offices.land(6, 6);
        for (int marked = 0; marked <= 36; marked++) {
            check.due("tree() of " + marked, x.tree(), Math.max(0, 10 * (marked - 1)));
            check.due("pair behind the last of " + marked, x.pair(Math.max(0, marked - 1)), DrainOffice.NONE);
            if (marked >= 2) {
                check.due("a last pair of " + marked, x.pair(marked - 2) >= 0 ? 1 : 0, 1);
            }
            x.mark(marked, true);
        }
    }

    /** PEAK of a main of BEARS 10 behind laterals of these FALLS (each bears 5 more) lead into it. */
    private static int peak(int... falls) {
        DrainOffice x = Offices.land(1, 2);
        Offices.lay(x, 0, 1, 500, 5, Offices.MAIN);
        for (int fall : falls) {
            int p = Offices.lay(x, 0, 1, 900, fall, Offices.LATERAL);
            check.due("join", x.join(p, 0), 1);
        }
        return x.of(0, 10);
    }

    private static void peakIsTheSum() {
        check.sentence("Terms 3: PEAK: the sum of BEARS of all PIPES that lead INTO it");
        check.due("of none", peak(), 0);
        check.due("of one", peak(1), 6);
        check.due("of the first PIPE", Offices.drained().of(1, 10), 6);
        DrainOffice x = Offices.land(1, 2);
        Offices.layWide(x, 0, 1, 500, 50, Offices.MAIN, 4);
        for (int p = 1; p < 20; p++) {
            x.join(Offices.lay(x, 0, 1, 900, p, Offices.LATERAL), 0);
        }
        check.due("of nineteen", x.of(0, 10), 19 * 5 + 190);
        x.block(7, true);
        check.due("of a BLOCKED one, too", x.of(0, 10), 19 * 5 + 190);
        x.part(19);
        check.due("no more of one that is parted", x.of(0, 10), 18 * 5 + 171);
    }

    private static void peakIsNotMoreThanItBears() {
        check.sentence("Terms 3: not more than itself BEARS");
        check.due("9 of 10", peak(4), 9);
        check.due("10 of 10", peak(5), 10);
        check.due("11 of 10", peak(6), 10);
        check.due("12 of 10", peak(1, 1), 10);
        check.due("55 of 10", peak(50), 10);
    }

    private static void peakIsOfWhatLeadsIntoItItself() {
        check.sentence("Terms 3: PIPES that lead INTO it (not through others)");
        DrainOffice x = Offices.land(1, 2);
        Offices.layWide(x, 0, 1, 500, 1, Offices.OUTFALL, 4);
        Offices.lay(x, 0, 1, 600, 2, Offices.MAIN);
        Offices.lay(x, 0, 1, 700, 3, Offices.MAIN);
        Offices.lay(x, 0, 1, 800, 1, Offices.LATERAL);
        x.join(3, 2);
        x.join(2, 1);
        x.join(1, 0);
        x.open(0, 0);
        check.due("PEAK of the outfall", x.of(0, 10), 7);
        check.due("PEAK of the main behind it", x.of(1, 10), 7);
        check.due("PEAK of the last main", x.of(2, 10), 6);
        check.due("PEAK of the lateral", x.of(3, 10), 0);
    }

    /** Three places that keep no water; rain on place 1 alone; these in THE SIGHT. */
    private static DrainOffice seen(int... places) {
        DrainOffice x = Offices.land(1, 3);
        x.rain(1, 1);
        for (int place : places) {
            x.sight(place, true);
        }
        return x;
    }

    private static void fitsJustThosePlaces() {
        check.sentence("Terms 3: it FITS if then just those PLACES have water that STANDS that are in THE SIGHT");
        check.due("just that one", seen(1).where(1, 0), 9999);
        check.due("none", seen().where(1, 0), DrainOffice.NONE);
        check.due("another one", seen(0).where(1, 0), DrainOffice.NONE);
        check.due("one more ahead", seen(0, 1).where(1, 0), DrainOffice.NONE);
        check.due("one more behind", seen(1, 2).where(1, 0), DrainOffice.NONE);
        check.due("all", seen(0, 1, 2).where(1, 0), DrainOffice.NONE);
    }

    private static void fitsNoneAndAll() {
        check.sentence("Terms 3: THE SIGHT: PLACES that were told to be wet (none of them, all of 36)");
        DrainOffice x = Offices.land(6, 6);
        check.due("none stands, none is seen", x.where(20, 0), 9999);
        x.rain(-1, 1);
        check.due("all stand, none is seen", x.where(1, 0), DrainOffice.NONE);
        for (int place = 0; place < 36; place++) {
            check.due("not all are seen yet", x.where(1, 0), DrainOffice.NONE);
            x.sight(place, true);
        }
        check.due("all stand, all are seen", x.where(1, 0), 9999);
        x.rain(35, 0);
        check.due("all but the last stand", x.where(1, 0), DrainOffice.NONE);
        x.sight(35, false);
        check.due("all but the last are seen", x.where(1, 0), 9999);
    }

    private static void oneDropStands() {
        check.sentence("Terms 3: have water that STANDS (1 is some, 0 is none; WET is another thing)");
        DrainOffice x = Offices.land(1, 2);
        x.soils(0, 100, 0, 1000, 0);
        x.rain(0, 100);
        check.due("all goes into the soil", x.where(1, 0), 9999);
        x.rain(0, 101);
        check.due("1 stands", x.where(1, 0), DrainOffice.NONE);
        x.sight(0, true);
        check.due("1 stands", x.where(1, 0), 9999);
        x.rain(0, 100);
        check.due("all goes into the soil", x.where(1, 0), DrainOffice.NONE);
    }

    private static void triedFromTheWaterAsItIs() {
        check.sentence("Terms 3: TRIED: from the water as it is");
        DrainOffice x = Offices.land(1, 1);
        x.soils(0, 10, 0, 1000, 0);
        x.rain(0, 30);
        x.hours(1);
        x.rain(0, 0);
        check.due("20 stand: 10 are left in an hour", x.where(1, 0), DrainOffice.NONE);
        check.due("none in two", x.where(2, 0), 9999);
        x.sight(0, true);
        check.due("seen so", x.where(1, 0), 9999);
        check.due("the trial changed nothing", x.at(0, 2), 20);
        check.due("no HOURS passed", x.many(2), 1);
    }

    private static void triedWithTheRainAsItIs() {
        check.sentence("Terms 3: TRIED: with the RAIN as it is each hour");
        DrainOffice x = Offices.land(1, 1);
        x.soils(0, 200, 0, 199, 0);
        x.rain(0, 10);
        check.due("190 in 19 hours", x.where(19, 0), 9999);
        check.due("200 in 20 hours", x.where(20, 0), DrainOffice.NONE);
        x.sight(0, true);
        check.due("190 in 19 hours", x.where(19, 0), DrainOffice.NONE);
        check.due("200 in 20 hours", x.where(20, 0), 9999);
        check.due("no RAIN fell", x.all(7), 0);
    }

    private static void triedBesideThoseThatAreBlocked() {
        check.sentence("Terms 3: TRIED with some PIPES BLOCKED (beside those that are)");
        DrainOffice x = Offices.land(1, 2);
        x.soils(0, 200, 100, 10, 0);
        for (int p = 0; p < 3; p++) {
            Offices.lay(x, 0, 1, 900, 1, Offices.LATERAL);
        }
        x.rain(0, 10);
        x.sight(0, true);
        check.due("two of three are not enough", x.where(2, 0), DrainOffice.NONE);
        x.block(1, true);
        check.due("the other two beside the blocked one", x.where(2, 0), 102);
        check.due("nothing else", x.where(2, 1), DrainOffice.NONE);
        check.due("only that one is BLOCKED", x.many(6), 1);
    }

    private static void triedForSoManyHours() {
        check.sentence("Terms 3: TRIED .. for h hours (1 to 20)");
        DrainOffice x = Offices.land(1, 1);
        x.soils(0, 1, 0, 1000, 0);
        x.rain(0, 20);
        x.hours(1);
        x.rain(0, 0);
        for (int h = 1; h <= 20; h++) {
            check.due("19 less " + h + " stand", x.where(h, 0), h < 19 ? DrainOffice.NONE : 9999);
        }
        check.due("h = 0", x.where(0, 0), DrainOffice.NUMBER);
        check.due("h = 21", x.where(21, 0), DrainOffice.NUMBER);
    }
}
