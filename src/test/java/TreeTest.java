/** Promises 21 to 23: mark, tree, pair. */
public final class TreeTest {
    private static final Check check = new Check();

    public static void main(String[] args) {
        markChangesOrNot();
        fewMarkedHaveNoTree();
        costCountsHeights();
        likeCostsGoByPlaces();
        ringsAreNotClosed();
        pairsComeAsTaken();
        wholeLandHangsTogether();
        askedTwiceItIsTheSame();
        check.finish();
    }

    private static DrainOffice land(int rows, int columns) {
        DrainOffice x = new DrainOffice();
        x.land(rows, columns);
        return x;
    }

    private static void markChangesOrNot() {
        DrainOffice x = land(6, 6);
        check.due("not marked already", x.mark(35, false), 0);
        check.due("mark(35)", x.mark(35, true), 1);
        check.due("mark(35) again", x.mark(35, true), 0);
        check.due("mark(0)", x.mark(0, true), 1);
        check.due("many(4)", x.many(4), 2);
        check.due("tree()", x.tree(), 100);
        check.due("pair(0)", x.pair(0), 35);
        check.due("unmark(35)", x.mark(35, false), 1);
        check.due("unmark(35) again", x.mark(35, false), 0);
        check.due("many(4)", x.many(4), 1);
        check.due("mark(36)", x.mark(36, true), DrainOffice.NUMBER);
        check.due("mark(-1)", x.mark(-1, true), DrainOffice.NUMBER);
        check.due("unmark(36)", x.mark(36, false), DrainOffice.NUMBER);
    }

    private static void fewMarkedHaveNoTree() {
        DrainOffice x = land(2, 2);
        check.due("tree() of none", x.tree(), 0);
        check.due("pair(0) of none", x.pair(0), DrainOffice.NONE);
        x.mark(2, true);
        check.due("tree() of one", x.tree(), 0);
        check.due("pair(0) of one", x.pair(0), DrainOffice.NONE);
        x.mark(3, true);
        check.due("tree() of two", x.tree(), 10);
        check.due("pair(0) of two", x.pair(0), 203);
        check.due("pair(1) of two", x.pair(1), DrainOffice.NONE);
        check.due("pair(-1)", x.pair(-1), DrainOffice.NONE);
    }

    private static void costCountsHeights() {
        DrainOffice x = land(2, 3);
        x.height(0, 0);
        x.height(5, 2000);
        x.mark(0, true);
        x.mark(5, true);
        check.due("1 row, 2 columns, 2000 high", x.tree(), 2030);
        x.mark(1, true);
        check.due("1010 and 1020", x.tree(), 2030);
        check.due("pair(0)", x.pair(0), 1);
        check.due("pair(1)", x.pair(1), 105);
        x.height(1, 1500);
        check.due("520 and 1510", x.tree(), 2030);
        check.due("pair(0)", x.pair(0), 105);
        check.due("pair(1)", x.pair(1), 1);
    }

    private static void likeCostsGoByPlaces() {
        DrainOffice x = land(2, 2);
        for (int place = 3; place >= 0; place--) {
            x.mark(place, true);
        }
        check.due("tree()", x.tree(), 30);
        check.due("the lesser first, then the greater", x.pair(0), 1);
        check.due("pair(1)", x.pair(1), 2);
        check.due("pair(2)", x.pair(2), 103);
        check.due("pair(3)", x.pair(3), DrainOffice.NONE);
    }

    private static void ringsAreNotClosed() {
        DrainOffice x = land(1, 5);
        x.mark(0, true);
        x.mark(1, true);
        x.mark(2, true);
        x.mark(4, true);
        // 0 to 2 costs 20 like 2 to 4 and comes ahead of it, but 0, 1 and 2 hang together.
        check.due("tree()", x.tree(), 40);
        check.due("pair(0)", x.pair(0), 1);
        check.due("pair(1)", x.pair(1), 102);
        check.due("pair(2)", x.pair(2), 204);
    }

    private static void pairsComeAsTaken() {
        DrainOffice x = land(1, 6);
        int[] heights = {1000, 1005, 1100, 1101, 1400, 1403};
        for (int place = 0; place < 6; place++) {
            x.height(place, heights[place]);
            x.mark(place, true);
        }
        int[] pairs = {203, 405, 1, 102, 304};
        for (int i = 0; i < pairs.length; i++) {
            check.due("pair(" + i + ")", x.pair(i), pairs[i]);
        }
        check.due("pair(5)", x.pair(5), DrainOffice.NONE);
        check.due("tree()", x.tree(), 11 + 13 + 15 + 105 + 309);
    }

    private static void askedTwiceItIsTheSame() {
        DrainOffice x = land(1, 4);
        x.height(1, 1050);
        for (int place = 0; place < 4; place++) {
            x.mark(place, true);
        }
        // 2 and 3 hang together first, then 0 with them, and 1 comes last.
        int[] pairs = {203, 2, 1};
        for (int times = 0; times < 3; times++) {
            check.due("tree()", x.tree(), 10 + 20 + 60);
            for (int i = 0; i < pairs.length; i++) {
                check.due("pair(" + i + ")", x.pair(i), pairs[i]);
            }
        }
        x.height(2, 1100);
        x.height(0, 1101);
        x.height(3, 1800);
        // 0 and 2 hang together first; 1 is the lesser of the pair that joins it to them.
        int[] anew = {2, 102, 203};
        for (int times = 0; times < 3; times++) {
            check.due("tree()", x.tree(), 21 + 60 + 710);
            for (int i = 0; i < anew.length; i++) {
                check.due("pair(" + i + ")", x.pair(i), anew[i]);
            }
        }
    }

    private static void wholeLandHangsTogether() {
        DrainOffice x = land(6, 6);
        for (int place = 0; place < 36; place++) {
            x.mark(place, true);
        }
        check.due("tree()", x.tree(), 350);
        check.due("pair(34)", x.pair(34), 2935);
        check.due("pair(35)", x.pair(35), DrainOffice.NONE);
        x.land(1, 2);
        check.due("behind land(): tree()", x.tree(), 0);
    }
}
