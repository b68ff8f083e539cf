/** Offices that several tests start from. */
final class Offices {
    static final int LATERAL = 0;
    static final int MAIN = 1;
    static final int MOLE = 2;
    static final int OUTFALL = 3;

    private Offices() {
    }

    /** A new land on a new object: HEIGHTS 1000, SOILS that do nothing. */
    static DrainOffice land(int rows, int columns) {
        DrainOffice x = new DrainOffice();
        x.land(rows, columns);
        return x;
    }

    /** A land whose soil takes 200, gives all it has, keeps 1000, and reaches its own place alone. */
    static DrainOffice thirsty(int rows, int columns) {
        DrainOffice x = land(rows, columns);
        x.soils(0, 200, 100, 1000, 0);
        return x;
    }

    /** A pipe of WIDTH 1 in a new trench; a mole lives 100 hours. */
    static int lay(DrainOffice x, int a, int b, int level, int fall, int kind) {
        return layWide(x, a, b, level, fall, kind, 1);
    }

    static int layWide(DrainOffice x, int a, int b, int level, int fall, int kind, int width) {
        x.trench(a, b, level, fall);
        return x.pipe(kind, width, 100);
    }

    /** Two places: lateral 0 (bears 6, holds 80) into outfall 1 (the same), that into ditch 0. */
    static DrainOffice drained() {
        DrainOffice x = thirsty(1, 2);
        lay(x, 0, 1, 902, 1, LATERAL);
        lay(x, 1, 0, 900, 1, OUTFALL);
        x.join(0, 1);
        x.open(1, 0);
        return x;
    }

    /**
     * Something of everything, and something else of everything kept: lateral 0 into main 1 into
     * outfall 2 into ditch 1, a blocked mole 3, water, rain, marks, sight, a trench in hand. Each
     * DITCH and each SOIL has numbers of its own.
     */
    static DrainOffice busy() {
        DrainOffice x = new DrainOffice();
        keepSomething(x);
        x.land(2, 2);
        x.height(1, 1010);
        x.height(2, 1250);
        x.height(3, 990);
        x.soils(0, 100, 50, 300, 0);
        x.soils(1, 30, 20, 90, 1);
        x.soils(2, 60, 80, 40, 2);
        x.soils(3, 20, 70, 100, 5);
        x.soil(1, 1);
        x.soil(2, 3);
        x.soil(3, 2);
        for (int ditch = 0; ditch < 4; ditch++) {
            x.ditch(ditch, 10 + ditch);
        }
        lay(x, 0, 1, 900, 2, LATERAL);
        lay(x, 1, 3, 800, 2, MAIN);
        lay(x, 3, 2, 700, 2, OUTFALL);
        lay(x, 2, 0, 600, 3, MOLE);
        x.join(0, 1);
        x.join(1, 2);
        x.open(2, 1);
        x.rain(-1, 130);
        x.rain(3, 0);
        x.hours(3);
        x.block(3, true);
        x.mark(0, true);
        x.mark(3, true);
        x.see();
        x.sight(3, true);
        x.trench(0, 2, 600, 4);
        return x;
    }

    private static void keepSomething(DrainOffice x) {
        x.land(1, 3);
        x.height(2, 1111);
        x.soils(0, 90, 40, 280, 1);
        x.soils(1, 25, 15, 80, 0);
        x.soils(2, 50, 70, 60, 4);
        x.soils(3, 15, 60, 70, 2);
        x.soil(1, 2);
        for (int ditch = 0; ditch < 4; ditch++) {
            x.ditch(ditch, 12 - ditch);
        }
        lay(x, 2, 0, 800, 5, MOLE);
        lay(x, 0, 1, 700, 5, OUTFALL);
        x.join(0, 1);
        x.open(1, 2);
        x.rain(-1, 70);
        x.hours(4);
        x.block(1, true);
        x.mark(1, true);
        x.mark(2, true);
        x.sight(2, true);
        x.trench(0, 1, 500, 6);
        x.keep();
    }

    /** As many PIPES as may be, of all KINDS by turns, in one trench that is still in hand. */
    static DrainOffice full() {
        DrainOffice x = thirsty(1, 2);
        x.trench(0, 1, 900, 1);
        for (int p = 0; p < 20; p++) {
            x.pipe(p % 4, 1, 50);
        }
        x.rain(-1, 30);
        x.hours(2);
        return x;
    }
}
