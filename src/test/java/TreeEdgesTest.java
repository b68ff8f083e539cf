/** Each sentence of promises 21 to 23 that names a boundary case, with a test of its own. */
public final class TreeEdgesTest {
    private static final int NUMBER = DrainOffice.NUMBER;
    private static final int NONE = DrainOffice.NONE;
    private static final Check check = new Check();

    public static void main(String[] args) {
        markAnswersOneOrNought();
        markOfTheFirstAndTheLastPlace();
        treeOfLessThanTwoCostsNothing();
        treeOfTheMostCosts();
        treeGoesByHeightsAsTheyAreNow();
        pairCountsFromNought();
        pairTellsTheLesserFirst();
        pairOfNone();
        pairsAddUpToTheTree();
        pairsAreFoundAnewEachTime();
        check.finish();
    }

    private static void markAnswersOneOrNought() {
        check.sentence("Promise 21: A PLACE is MARKED, or not: 1 if that changes something, else 0");
        DrainOffice x = Offices.land(6, 6);
        for (int place = 0; place < 36; place++) {
            check.due("not so at first", x.mark(place, false), 0);
            check.due("how many yet", x.many(4), place);
            check.due("mark", x.mark(place, true), 1);
            check.due("mark again", x.mark(place, true), 0);
        }
        check.due("all", x.many(4), 36);
        for (int place = 35; place >= 0; place--) {
            check.due("no more", x.mark(place, false), 1);
            check.due("no more, again", x.mark(place, false), 0);
            check.due("how many are left", x.many(4), place);
        }
    }

    private static void markOfTheFirstAndTheLastPlace() {
        check.sentence("Promise 21: NUMBER: there is none such");
        DrainOffice x = Offices.land(6, 6);
        check.ends("mark(.., true)", 0, 35, n -> x.mark(n, true), 1, NUMBER);
        check.ends("mark(.., false)", 0, 35, n -> x.mark(n, false), 1, NUMBER);
        DrainOffice y = Offices.land(2, 3);
        check.ends("mark(.., true) of six", 0, 5, n -> y.mark(n, true), 1, NUMBER);
        check.due("two are MARKED", y.many(4), 2);
    }

    private static void treeOfLessThanTwoCostsNothing() {
        check.sentence("Promise 22: COST of THE TREE (0 of less than two MARKED PLACES)");
        DrainOffice x = Offices.land(6, 6);
        check.due("of none", x.tree(), 0);
        for (int place : new int[] {0, 17, 35}) {
            x.mark(place, true);
            check.due("of one", x.tree(), 0);
            check.due("no pair of one", x.pair(0), NONE);
            x.mark(place, false);
        }
        x.mark(0, true);
        x.mark(1, true);
        check.due("of two", x.tree(), 10);
        x.mark(0, false);
        check.due("of one again", x.tree(), 0);
        check.due("of a new object", new DrainOffice().tree(), 0);
    }

    private static void treeOfTheMostCosts() {
        check.sentence("Promise 22: COST of THE TREE (of as many as may be, as dear as may be)");
        DrainOffice x = Offices.land(6, 6);
        for (int place = 0; place < 36; place++) {
            x.mark(place, true);
            x.height(place, (place / 6 + place % 6) % 2 == 0 ? 0 : 2000);
        }
        // Like heights are two apart at least: 17 pairs of 20 in each half, and one of 2010.
        check.due("tree()", x.tree(), 34 * 20 + 2010);
        check.due("the first", x.pair(0), 2);
        check.due("the dear one comes last", x.pair(34), 1);
        check.due("no more", x.pair(35), NONE);
    }

    private static void treeGoesByHeightsAsTheyAreNow() {
        check.sentence("Promise 22: COST of THE TREE (by the HEIGHTS as they are)");
        DrainOffice x = Offices.land(1, 3);
        for (int place = 0; place < 3; place++) {
            x.mark(place, true);
        }
        check.due("flat", x.tree(), 20);
        x.height(1, 0);
        check.due("1000 down and over", x.tree(), 20 + 1010);
        check.due("pair(0)", x.pair(0), 2);
        check.due("pair(1)", x.pair(1), 1);
        x.mark(1, false);
        check.due("without it", x.tree(), 20);
        check.due("pair(1)", x.pair(1), NONE);
    }

    private static void pairCountsFromNought() {
        check.sentence("Promise 23: Pair i (from 0 on) of THE TREE, as it is taken");
        DrainOffice x = Offices.land(1, 4);
        int[] heights = {0, 30, 40, 45};
        for (int place = 0; place < 4; place++) {
            x.height(place, heights[place]);
            x.mark(place, true);
        }
        check.due("15", x.pair(0), 203);
        check.due("20", x.pair(1), 102);
        check.due("40", x.pair(2), 1);
        check.due("no more", x.pair(3), NONE);
        check.due("tree()", x.tree(), 75);
    }

    private static void pairTellsTheLesserFirst() {
        check.sentence("Promise 23: 100 times the lesser PLACE, and the greater");
        DrainOffice x = Offices.land(6, 6);
        x.mark(35, true);
        x.mark(34, true);
        check.due("the greatest", x.pair(0), 3435);
        x.mark(34, false);
        x.mark(0, true);
        check.due("the lesser is 0", x.pair(0), 35);
        x.mark(35, false);
        x.mark(1, true);
        check.due("the least", x.pair(0), 1);
    }

    private static void pairOfNone() {
        check.sentence("Promise 23: NONE: there is none such");
        DrainOffice x = Offices.land(2, 2);
        for (int marked = 0; marked <= 4; marked++) {
            int pairs = Math.max(0, marked - 1);
            check.due("pair(" + pairs + ") of " + marked, x.pair(pairs), NONE);
            check.due("pair(-1) of " + marked, x.pair(-1), NONE);
            check.due("pair(least) of " + marked, x.pair(Integer.MIN_VALUE), NONE);
            check.due("pair(most) of " + marked, x.pair(Integer.MAX_VALUE), NONE);
            if (pairs > 0) {
                check.due("the last of " + marked, x.pair(pairs - 1) == NONE ? 1 : 0, 0);
            }
            x.mark(marked, true);
        }
    }

    private static void pairsAddUpToTheTree() {
        check.sentence("Promises 22 and 23: COST of THE TREE is that of its pairs");
        DrainOffice x = Offices.land(6, 6);
        for (int place = 0; place < 36; place++) {
            x.height(place, place * 389 % 2001);
            if (place % 3 != 1) {
                x.mark(place, true);
            }
        }
        int cost = 0;
        int dearest = 0;
        for (int i = 0; i < 23; i++) {
            int a = x.pair(i) / 100;
            int b = x.pair(i) % 100;
            int one = 10 * (Math.abs(a / 6 - b / 6) + Math.abs(a % 6 - b % 6)) + Math.abs(x.at(a, 0) - x.at(b, 0));
            check.due("the lesser is first", a < b ? 1 : 0, 1);
            check.due("none is cheaper than the one ahead", one >= dearest ? 1 : 0, 1);
            dearest = one;
            cost += one;
        }
        check.due("tree()", x.tree(), cost);
        check.due("pair(23)", x.pair(23), NONE);
    }

    private static void pairsAreFoundAnewEachTime() {
        check.sentence("Promise 23: Pair i of THE TREE (whatever was asked ahead of it, in any order)");
        DrainOffice x = Offices.land(1, 4);
        x.height(1, 1050);
        for (int place = 0; place < 4; place++) {
            x.mark(place, true);
        }
        int[] pairs = {203, 2, 1};
        for (int i : new int[] {2, 0, 1, 1, 2, 0}) {
            check.due("pair(" + i + ")", x.pair(i), pairs[i]);
            check.due("tree()", x.tree(), 90);
        }
        x.height(1, 1000);
        x.height(2, 1050);
        // 0 and 1 hang together first, 3 comes to them by 1, and 2 comes last.
        int[] anew = {1, 103, 102};
        for (int i : new int[] {2, 0, 1, 1, 2, 0}) {
            check.due("pair(" + i + ")", x.pair(i), anew[i]);
            check.due("tree()", x.tree(), 90);
        }
        int[] heights = {1101, 1050, 1100, 1800};
        for (int place = 0; place < 4; place++) {
            x.height(place, heights[place]);
        }
        // 0 and 2 hang together first; 1 is the lesser PLACE of the pair that joins it to them.
        int[] third = {2, 102, 203};
        for (int i : new int[] {2, 0, 1, 1, 2, 0}) {
            check.due("pair(" + i + ")", x.pair(i), third[i]);
            check.due("tree()", x.tree(), 21 + 60 + 710);
        }
    }
}
