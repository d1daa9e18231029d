/** Promises 12 to 18: what will be. */
final class AheadTest {
    private static final Checks CHECKS = new Checks();

    public static void main(String[] args) {
        ahead();
        lasts();
        shineAndDark();
        kindFor();
        dustFor();
        uses();
        nothingChanges();
        fullSky();
        CHECKS.end();
    }

    private static StarCrew allKinds() {
        StarCrew x = new StarCrew();
        for (int kind = 0; kind < 7; kind++) {
            x.star(kind, 10 * kind);
        }
        return x;
    }

    private static void ahead() {
        StarCrew x = allKinds();
        CHECKS.due("12 now", x.ahead(0, 0), 50);
        CHECKS.due("12 a night", x.ahead(1, 1), 46);
        CHECKS.due("12 ten nights", x.ahead(2, 10), 40);
        CHECKS.due("12 an old one", x.ahead(5, 2), 37);
        CHECKS.due("12 not below 0", x.ahead(0, 200), 0);
        CHECKS.due("12 n 201", x.ahead(0, 201), Checks.BEYOND);
        CHECKS.due("12 n -1", x.ahead(0, -1), Checks.BEYOND);
        CHECKS.due("12 star 7", x.ahead(7, 0), Checks.BEYOND);
        CHECKS.due("12 star -1", x.ahead(-1, 0), Checks.BEYOND);
    }

    private static void lasts() {
        StarCrew x = allKinds();
        int[] nights = {21, 8, 46, 50, 50, 6, 4};
        for (int kind = 0; kind < 7; kind++) {
            CHECKS.due("13 kind " + kind, x.lasts(kind), nights[kind]);
        }
        x.change(0, 2, 9);
        CHECKS.due("13 dark already", x.lasts(0), 0);
        x.change(0, 2, 10);
        CHECKS.due("13 dark tomorrow", x.lasts(0), 1);
        x.set(0, 0);
        CHECKS.due("13 it doesn't wear", x.lasts(2), Checks.NONE);
        CHECKS.due("13 no star", x.lasts(7), Checks.BEYOND);
        CHECKS.due("13 no star", x.lasts(-1), Checks.BEYOND);
        x.change(0, 2, 99);
        CHECKS.due("13 long", x.lasts(0), 90);
    }

    private static void shineAndDark() {
        StarCrew x = allKinds();
        CHECKS.due("14 now", x.shine(0), 127);
        CHECKS.due("14 behind 4", x.shine(4), 63);
        CHECKS.due("14 behind 6", x.shine(6), 31);
        CHECKS.due("14 behind 49", x.shine(49), 24);
        CHECKS.due("14 behind 200", x.shine(200), 0);
        CHECKS.due("14 n 201", x.shine(201), Checks.BEYOND);
        CHECKS.due("14 n -1", x.shine(-1), Checks.BEYOND);
        int[] nights = {50, 50, 46, 21, 8, 6, 4, 0, 0, 0};
        for (int k = 1; k <= 10; k++) {
            CHECKS.due("15 fewer than " + k, x.dark(k), nights[k - 1]);
        }
        CHECKS.due("15 k 0", x.dark(0), Checks.BEYOND);
        CHECKS.due("15 k 11", x.dark(11), Checks.BEYOND);
        x.set(0, 0);
        CHECKS.due("15 three go on", x.dark(3), Checks.NONE);
        CHECKS.due("15 a fourth goes out", x.dark(4), 41);
    }

    private static void kindFor() {
        StarCrew x = allKinds();
        CHECKS.due("16 of two the least", x.kindFor(0), 3);
        x.set(1, 5);
        CHECKS.due("16 wishes wear a pole", x.kindFor(0), 2);
        x.set(0, 0);
        CHECKS.due("16 a fixed one doesn't wear", x.kindFor(1), 2);
        x.change(0, 2, 4);
        CHECKS.due("16 too dim for a fixed one", x.kindFor(0), 3);
        x.change(0, 2, 0);
        CHECKS.due("16 none shines: the least", x.kindFor(0), 0);
        CHECKS.due("16 no star", x.kindFor(7), Checks.BEYOND);
        CHECKS.due("16 no star", x.kindFor(-1), Checks.BEYOND);
    }

    private static void dustFor() {
        StarCrew x = allKinds();
        CHECKS.due("17 now with any", x.dustFor(0, 0), 9);
        CHECKS.due("17 four nights", x.dustFor(0, 4), 9);
        CHECKS.due("17 ten nights", x.dustFor(0, 10), 3);
        CHECKS.due("17 forty nights", x.dustFor(0, 40), 0);
        CHECKS.due("17 41 nights", x.dustFor(0, 41), Checks.NONE);
        CHECKS.due("17 a pole wears by pairs", x.dustFor(3, 49), 2);
        CHECKS.due("17 for ever", x.dustFor(3, 200), 0);
        CHECKS.due("17 n 201", x.dustFor(0, 201), Checks.BEYOND);
        CHECKS.due("17 n -1", x.dustFor(0, -1), Checks.BEYOND);
        CHECKS.due("17 no star", x.dustFor(7, 0), Checks.BEYOND);
        CHECKS.due("17 no star", x.dustFor(-1, 0), Checks.BEYOND);
        x.change(0, 2, 9);
        CHECKS.due("17 dark already", x.dustFor(0, 0), Checks.NONE);
    }

    private static void uses() {
        StarCrew x = new StarCrew();
        x.star(0, 0);
        x.change(0, 2, 9);
        x.set(3, 0);
        CHECKS.due("18 no night", x.uses(0), 0);
        CHECKS.due("18 dark at once", x.uses(1), 1);
        CHECKS.due("18 it lasts 45 nights", x.uses(45), 1);
        CHECKS.due("18 the 46th takes another", x.uses(46), 2);
        x.star(6, 0);
        CHECKS.due("18 a giant goes out behind 4", x.uses(4), 1);
        CHECKS.due("18 and is mended ahead of the 5th", x.uses(5), 2);
        CHECKS.due("18 n 201", x.uses(201), Checks.BEYOND);
        CHECKS.due("18 n -1", x.uses(-1), Checks.BEYOND);
    }

    private static void fullSky() {
        StarCrew x = new StarCrew();
        for (int i = 0; i < 10; i++) {
            x.star(0, i);
            x.change(i, 2, 10 + 2 * i);
        }
        CHECKS.due("12 the last", x.ahead(9, 9), 10);
        CHECKS.due("13 the last", x.lasts(9), 10);
        CHECKS.due("14 the last", x.shine(9), 512);
        CHECKS.due("15 the first", x.dark(10), 1);
        CHECKS.due("15 the last", x.dark(1), 10);
        CHECKS.due("18 each once", x.uses(11), 10);
        CHECKS.due("10 LIFE together", x.now(2), 190);
        CHECKS.due("10 WORTH together", x.now(3), 10);
        CHECKS.due("9 the first goes out", x.go(1), 9);
    }

    private static void nothingChanges() {
        StarCrew x = allKinds();
        x.ahead(0, 9);
        x.lasts(0);
        x.shine(9);
        x.dark(1);
        x.kindFor(0);
        x.dustFor(0, 9);
        x.uses(99);
        CHECKS.due("12 to 18 LIFE stays", x.now(2), 350);
        CHECKS.due("12 to 18 NIGHT stays", x.now(0), 0);
        CHECKS.due("18 PARTS stay", x.now(4), 20);
        CHECKS.due("17 DUST stays", x.now(5), 1);
        CHECKS.due("16 KIND stays", x.of(0, 0), 0);
    }
}
