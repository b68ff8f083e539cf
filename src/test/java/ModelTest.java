import java.util.Random;

/** Runs of 512 mixed calls on a DrainOffice and on the Model, which must answer alike. */
public final class ModelTest {
    private static final int RUNS = 300;
    private static final int CALLS = 512;
    private static final int[] ODD = {-1, -2, 4, 6, 7, 20, 36, 51, 101, 301, 2001,
        Integer.MIN_VALUE, Integer.MAX_VALUE};
    private static final Check check = new Check();

    private final Random random;
    private final DrainOffice x = new DrainOffice();
    private final Model m = new Model();
    private final int run;
    private int calls = 0;

    private ModelTest(int run) {
        this.run = run;
        random = new Random(run);
    }

    public static void main(String[] args) {
        for (int run = 0; run < RUNS; run++) {
            new ModelTest(run).play();
        }
        check.finish();
    }

    private void play() {
        if (run % 8 != 0) {
            setUp();
        }
        // One turn makes two calls at most, and no object is used for more than CALLS.
        while (calls + 2 <= CALLS) {
            one(weighted());
        }
    }

    /** A land with soils and rain, so that there is something to drain. */
    private void setUp() {
        int rows = 1 + random.nextInt(6);
        int columns = 1 + random.nextInt(6);
        same("land", x.land(rows, columns), m.land(rows, columns));
        for (int s = 0; s < 4; s++) {
            one(3);
            one(4);
        }
        one(14);
    }

    /** Which call comes: laying and joining often, a new land seldom. */
    private int weighted() {
        int dice = random.nextInt(100);
        if (dice < 2) {
            return random.nextInt(4) == 0 ? 0 : 3;
        }
        if (dice < 20) {
            return 5;
        }
        if (dice < 28) {
            return 7;
        }
        return 1 + random.nextInt(26);
    }

    private void same(String call, int got, int want) {
        calls++;
        check.due("run " + run + ": " + call, got, want);
    }

    /** Mostly 0 to most, now and then a number that none may be. */
    private int n(int most) {
        return random.nextInt(40) == 0 ? ODD[random.nextInt(ODD.length)] : random.nextInt(most + 1);
    }

    private int place() {
        return n(m.many(0) - 1);
    }

    private int tube() {
        return n(Math.max(0, m.many(1) - 1));
    }

    private boolean yes() {
        return random.nextInt(3) > 0;
    }

    private void one(int which) {
        if (which <= 8) {
            layOne(which);
        } else if (which <= 18) {
            waterOne(which);
        } else {
            otherOne(which);
        }
    }

    private void layOne(int which) {
        int a;
        int b;
        switch (which) {
            case 0 -> {
                a = n(7);
                b = n(7);
                same("land(" + a + ", " + b + ")", x.land(a, b), m.land(a, b));
            }
            case 1 -> {
                a = place();
                b = random.nextInt(4) == 0 ? n(2000) : 990 + random.nextInt(20);
                same("height(" + a + ", " + b + ")", x.height(a, b), m.height(a, b));
            }
            case 2 -> {
                a = place();
                b = n(3);
                same("soil(" + a + ", " + b + ")", x.soil(a, b), m.soil(a, b));
            }
            case 3 -> soils();
            case 4 -> {
                a = n(3);
                b = yes() ? 850 + random.nextInt(90) : n(2000);
                same("ditch(" + a + ", " + b + ")", x.ditch(a, b), m.ditch(a, b));
            }
            case 5 -> lay();
            case 6 -> pipe();
            case 7 -> join();
            default -> {
                a = tube();
                b = n(3);
                same("open(" + a + ", " + b + ")", x.open(a, b), m.open(a, b));
            }
        }
    }

    private void soils() {
        int soil = n(3);
        int takes = n(200);
        int gives = n(100);
        int keeps = yes() ? n(200) : n(1000);
        int reaches = yes() ? n(5) : n(40);
        same("soils(" + soil + ", " + takes + ", " + gives + ", " + keeps + ", " + reaches + ")",
                x.soils(soil, takes, gives, keeps, reaches), m.soils(soil, takes, gives, keeps, reaches));
    }

    /** A trench, and mostly a pipe in it; often the trench goes on where a pipe ended. */
    private void lay() {
        int a = place();
        if (m.many(1) > 0 && yes()) {
            int p = random.nextInt(m.many(1));
            a = m.step(p, random.nextInt(m.of(p, 1)), 0);
        }
        int b = place();
        int level = yes() ? 880 + random.nextInt(66) : n(2000);
        int fall = yes() ? 1 + n(7) : n(50);
        same("trench(" + a + ", " + b + ", " + level + ", " + fall + ")",
                x.trench(a, b, level, fall), m.trench(a, b, level, fall));
        if (random.nextInt(6) > 0) {
            pipe();
        }
    }

    private void pipe() {
        int kind = n(3);
        int width = 1 + n(3);
        int life = yes() ? 1 + n(20) : n(100);
        same("pipe(" + kind + ", " + width + ", " + life + ")", x.pipe(kind, width, life),
                m.pipe(kind, width, life));
    }

    private void join() {
        int p = tube();
        int q = tube();
        for (int tries = 0; tries < 8 && !m.mayJoin(p, q) && yes(); tries++) {
            p = tube();
            q = tube();
        }
        same("join(" + p + ", " + q + ")", x.join(p, q), m.join(p, q));
    }

    private void waterOne(int which) {
        int a = tube();
        int b = n(11);
        boolean is = yes();
        switch (which) {
            case 9 -> {
                a = random.nextInt(4) == 0 ? a : -1;
                same("part(" + a + ")", x.part(a), m.part(a));
            }
            case 10 -> {
                is = random.nextInt(3) == 0;
                same("block(" + a + ", " + is + ")", x.block(a, is), m.block(a, is));
            }
            case 11 -> same("of(" + a + ", " + b + ")", x.of(a, b), m.of(a, b));
            case 12 -> {
                int k = n(5);
                b = n(2);
                same("step(" + a + ", " + k + ", " + b + ")", x.step(a, k, b), m.step(a, k, b));
            }
            case 13, 14 -> {
                a = which == 14 && random.nextInt(4) == 0 ? -1 : place();
                b = yes() ? n(40) : n(300);
                same("rain(" + a + ", " + b + ")", x.rain(a, b), m.rain(a, b));
            }
            case 15 -> {
                a = yes() ? 1 + n(4) : n(50);
                same("hours(" + a + ")", x.hours(a), m.hours(a));
            }
            case 16 -> {
                a = place();
                b = n(5);
                same("at(" + a + ", " + b + ")", x.at(a, b), m.at(a, b));
            }
            case 17 -> {
                a = n(7);
                same("all(" + a + ")", x.all(a), m.all(a));
            }
            default -> {
                a = n(6);
                same("many(" + a + ")", x.many(a), m.many(a));
            }
        }
    }

    private void otherOne(int which) {
        int a = place();
        boolean is = yes();
        switch (which) {
            case 19 -> same("dry(" + a + ")", x.dry(a), m.dry(a));
            case 20 -> same("mark(" + a + ", " + is + ")", x.mark(a, is), m.mark(a, is));
            case 21 -> same("tree()", x.tree(), m.tree());
            case 22 -> {
                a = n(Math.max(0, m.many(4) - 1));
                same("pair(" + a + ")", x.pair(a), m.pair(a));
            }
            case 23 -> same("sight(" + a + ", " + is + ")", x.sight(a, is), m.sight(a, is));
            case 24 -> {
                same("see()", x.see(), m.see());
                search();
            }
            case 25 -> search();
            default -> {
                if (random.nextInt(3) == 0) {
                    same("keep()", x.keep(), m.keep());
                } else {
                    same("back()", x.back(), m.back());
                }
            }
        }
    }

    private void search() {
        int h = yes() ? 1 + n(3) : n(20);
        int k = yes() ? n(3) : n(40);
        same("where(" + h + ", " + k + ")", x.where(h, k), m.where(h, k));
    }
}
