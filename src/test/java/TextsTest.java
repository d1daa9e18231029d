/** Promises 34 to 39: dropped tools, texts. */
final class TextsTest {
    private static final Checks CHECKS = new Checks();

    public static void main(String[] args) {
        drops();
        odds();
        seed();
        feedAndWipe();
        textOfStars();
        textOfTheRest();
        tokens();
        faults();
        CHECKS.end();
    }

    private static void drops() {
        StarCrew x = new StarCrew();
        CHECKS.due("34 n 0", x.drops(0), Checks.BEYOND);
        CHECKS.due("34 n 21", x.drops(21), Checks.BEYOND);
        CHECKS.due("34 n -1", x.drops(-1), Checks.BEYOND);
        CHECKS.due("34 a finding draws nothing", x.count(6), 1);
        CHECKS.due("34 no stars", x.drops(1), 0);
        CHECKS.due("34 z went on", x.count(6), 1103527590);
        CHECKS.due("34 a night went by", x.now(0), 1);
        CHECKS.due("34 twenty", x.drops(20), 0);
        CHECKS.due("34 nights", x.now(0), 21);
        for (int i = 0; i < 10; i++) {
            x.star(2, i);
        }
        for (int seed = -60; seed < 60; seed++) {
            x.seed(seed * 1234567);
            int z = seed * 1234567 * 1103515245 + 12345;
            int number = (int) ((z & 0xffffffffL) / 256 % 16);
            for (int i = 0; i < 10; i++) {
                x.change(i, 2, 50);
            }
            CHECKS.due("34 seed " + seed, x.drops(1), number < 10 ? 1 : 0);
            CHECKS.due("34 z behind seed " + seed, x.count(6), z);
            for (int i = 0; i < 10; i++) {
                CHECKS.due("34 life of " + i, x.of(i, 2), i == number ? 0 : 49);
            }
        }
        x.set(0, 0);
        x.seed(0);
        x.change(0, 2, 50);
        CHECKS.due("34 what doesn't wear is hit all the same", x.drops(1) * 100 + x.of(0, 2), 100);
        StarCrew y = new StarCrew();
        for (int i = 0; i < 10; i++) {
            y.star(2, i);
        }
        CHECKS.due("34 each tool that hits counts", y.drops(20), hitsOf(1, 20, 10));
    }

    private static int hitsOf(int seed, int n, int stars) {
        int z = seed;
        int hits = 0;
        for (int i = 0; i < n; i++) {
            z = z * 1103515245 + 12345;
            hits += (z >>> 8) % 16 < stars ? 1 : 0;
        }
        return hits;
    }

    private static void odds() {
        StarCrew x = new StarCrew();
        CHECKS.due("35 n 15", x.odds(15, 0), Checks.BEYOND);
        CHECKS.due("35 n -1", x.odds(-1, 0), Checks.BEYOND);
        CHECKS.due("35 what 2", x.odds(0, 2), Checks.BEYOND);
        CHECKS.due("35 what -1", x.odds(0, -1), Checks.BEYOND);
        CHECKS.due("51 in longs, too", x.status(0), 4);
        int[][] once = {{1, 1}, {15, 16}, {7, 8}, {13, 16}, {3, 4}, {11, 16}, {5, 8}, {9, 16}, {1, 2}, {7, 16}, {3, 8}};
        for (int stars = 0; stars <= 10; stars++) {
            for (int n = 0; n <= 14; n++) {
                CHECKS.due("35 above, " + stars + " stars, n " + n, x.odds(n, 0), power(once[stars][0], n));
                CHECKS.due("35 below, " + stars + " stars, n " + n, x.odds(n, 1), power(once[stars][1], n));
            }
            x.star(0, 0);
        }
        StarCrew y = new StarCrew();
        y.star(0, 0);
        CHECKS.due("35 the greatest", y.odds(14, 1), 1L << 56);
        CHECKS.due("35 above it", y.odds(14, 0), 29192926025390625L);
    }

    private static long power(long base, int n) {
        return n == 0 ? 1 : base * power(base, n - 1);
    }

    private static void seed() {
        StarCrew x = new StarCrew();
        CHECKS.due("36 at first", x.seed(-1000001), 1);
        CHECKS.due("36 z", x.count(6), -1000001);
        CHECKS.due("36 what it was", x.seed(Integer.MIN_VALUE), -1000001);
        CHECKS.due("36 any int", x.seed(Integer.MAX_VALUE), Integer.MIN_VALUE);
        CHECKS.due("36 and back", x.seed(0), Integer.MAX_VALUE);
        CHECKS.due("51 z is no finding", x.status(-1), 0);
    }

    private static void feedAndWipe() {
        StarCrew x = new StarCrew();
        CHECKS.due("37 n 0", x.feed(0, 0), Checks.BEYOND);
        CHECKS.due("37 n 5", x.feed(0, 5), Checks.BEYOND);
        CHECKS.due("37 n -1", x.feed(0, -1), Checks.BEYOND);
        CHECKS.due("38 empty", x.wipe(), 0);
        CHECKS.due("37 three of four, the highest first", x.feed(0x41726564, 3), 3);
        CHECKS.due("50 bytes", x.count(5), 3);
        CHECKS.due("39 red", x.text(), 1);
        CHECKS.due("39 red", x.of(0, 0), 1);
        CHECKS.due("39 the tape is empty then", x.count(5), 0);
        for (int i = 1; i <= 30; i++) {
            CHECKS.due("37 bytes", x.feed(i == 1 ? 0x6f6c6420 : 0x20202020, 4), 4 * i);
        }
        CHECKS.due("37 full", x.feed(0, 1), Checks.FULL);
        CHECKS.due("37 full, and n wrong", x.feed(0, 5), Checks.BEYOND);
        CHECKS.due("39 120 bytes", x.text(), 1);
        for (int i = 1; i <= 118; i++) {
            x.feed(32, 1);
        }
        CHECKS.due("37 too many by one", x.feed(0, 3), Checks.FULL);
        CHECKS.due("37 a finding feeds nothing", x.count(5), 118);
        CHECKS.due("37 just as many", x.feed(0, 2), 120);
        CHECKS.due("38 how many it had", x.wipe(), 120);
        CHECKS.due("38 empty now", x.count(5), 0);
        x.feed(-1, 4);
        CHECKS.due("39 bytes above 127 begin no token", x.text(), -1);
    }

    private static void textOfStars() {
        StarCrew x = new StarCrew();
        CHECKS.due("39 seven kinds", Checks.read(x, "lamp;red;fixed;pole;guide;old;giant"), 7);
        for (int i = 0; i < 7; i++) {
            CHECKS.due("39 kind", x.of(i, 0), i);
            CHECKS.due("39 at without", x.of(i, 1), 0);
            CHECKS.due("39 life without", x.of(i, 2), 50);
            CHECKS.due("39 worth without", x.of(i, 3), 1);
        }
        CHECKS.due("39 all told", Checks.read(x, "lamp at 99 life 98 worth 97"), 1);
        CHECKS.due("39 all told", x.of(7, 1) * 10000 + x.of(7, 2) * 100 + x.of(7, 3), 999897);
        CHECKS.due("39 some told", Checks.read(x, "lamp life 0;lamp worth 0 "), 2);
        CHECKS.due("39 life 0", x.of(8, 2), 0);
        CHECKS.due("39 worth 0", x.of(9, 3), 0);
        CHECKS.due("39 an 11th star", Checks.read(x, " dust 5;  pole"), -1 - 10);
        CHECKS.due("39 nothing changes", x.now(5), 1);
        StarCrew y = new StarCrew();
        CHECKS.due("39 an 11th star in one text", Checks.read(y, "red;red;red;red;red;red;red;red;red;red;red at"), -1 - 40);
        CHECKS.due("39 nothing changes", y.count(1), 0);
        CHECKS.due("39 ten stars", Checks.read(y, "red;red;red;red;red;red;red;red;red;red"), 10);
    }

    private static void textOfTheRest() {
        StarCrew x = new StarCrew();
        CHECKS.due("39 settings", Checks.read(x, "dust 9;wishes 8;mend 99;parts 9999"), 4);
        CHECKS.due("39 dust", x.set(0, 0), 9);
        CHECKS.due("39 wishes", x.set(1, 0), 8);
        CHECKS.due("39 mend", x.set(2, 0), 99);
        CHECKS.due("39 parts", x.set(3, 0), 9999);
        CHECKS.due("39 crews", Checks.read(x, "crew 0 at 9;crew 1 steps 999;crew 2 at 99 steps 0;crew 3"), 4);
        int[] due = {9, 60, 0, 999, 99, 0, 0, 60};
        for (int i = 0; i < 8; i++) {
            CHECKS.due("39 crew " + i / 2 + ", " + i % 2, x.crewOf(i / 2, i % 2), due[i]);
        }
        CHECKS.due("39 a crew keeps what isn't told", Checks.read(x, "crew 2 steps 5;crew 0"), 2);
        CHECKS.due("39 its place", x.crewOf(2, 0) * 100 + x.crewOf(0, 0), 9909);
        CHECKS.due("39 signs", Checks.read(x, "lamp;sign 1;red;sign 3"), 4);
        CHECKS.due("39 signs", x.signOf(0) * 10 + x.signOf(1), 13);
        CHECKS.due("39 of a star not there by then", Checks.read(x, "sign 4;lamp"), -1 - 5);
        CHECKS.due("39 item by item, the latest counts", Checks.read(x, "dust 3;dust 4"), 2);
        CHECKS.due("39 the latest counts", x.now(5), 4);
        CHECKS.due("39 four more signs", Checks.read(x, "sign 1;sign 1;sign 1;sign 1"), 4);
        CHECKS.due("39 a 7th sign", Checks.read(x, "sign 1"), -1);
        CHECKS.due("39 a text is no image", x.tear(), 0);
    }

    private static void tokens() {
        StarCrew x = new StarCrew();
        CHECKS.due("39 blanks aren't needed", Checks.read(x, "lamp at5life6worth7;dust0"), 2);
        CHECKS.due("39 as told", x.of(0, 1) * 100 + x.of(0, 2) * 10 + x.of(0, 3), 567);
        CHECKS.due("39 blanks may stand", Checks.read(x, "   lamp   at  5  ;  dust   1  "), 2);
        CHECKS.due("39 a word is as long as can be", Checks.read(x, "lampat 5"), -1);
        String[] others = {"lampz", "aamp", "bed", "mixed", "hole", "suide", "ald", "giants", "gian", "must 1", "fishes 1",
            "bend 1", "darts 1", "sigh 1", "grew 1", "steps 1", "life 1", "worth 1", "z", "{", "`"};
        for (String other : others) {
            CHECKS.due("39 another word: " + other, Checks.read(x, other), -1);
        }
        CHECKS.due("39 another word behind", Checks.read(x, "lamp it 5"), -1 - 5);
        CHECKS.due("39 signs beside the digits", Checks.read(x, "dust /"), -1 - 5);
        CHECKS.due("39 signs beside the digits", Checks.read(x, "dust 1:"), -1 - 6);
        CHECKS.due("39 a number is as long as can be", Checks.read(x, "lamp at 100"), -1 - 8);
        CHECKS.due("39 zeros ahead", Checks.read(x, "dust 0000000000000000000000007"), 1);
        CHECKS.due("39 zeros ahead", x.now(5), 7);
        CHECKS.due("39 2 to the 32nd and 1 isn't 1", Checks.read(x, "dust 4294967297"), -1 - 5);
        CHECKS.due("39 many digits", Checks.read(x, "parts 99999999999999999999999999999999999999999999999"), -1 - 6);
        CHECKS.due("39 no number to begin", Checks.read(x, "100000"), -1);
        CHECKS.due("39 a great letter", Checks.read(x, "Lamp"), -1);
        CHECKS.due("39 a tab is no blank", Checks.read(x, "dust\t1"), -1 - 4);
        CHECKS.due("39 a line's end is no blank", Checks.read(x, "dust 1\n"), -1 - 6);
        CHECKS.due("39 a minus", Checks.read(x, "dust -1"), -1 - 5);
        CHECKS.due("39 a byte of 0", Checks.read(x, "dust 1\0"), -1 - 6);
    }

    private static void faults() {
        StarCrew x = new StarCrew();
        x.star(0, 0);
        String[] early = {"", "  ", "dust", "dust ", "crew", "crew 0 at", "crew 0 at 1 steps ", "lamp at", "lamp life",
            "lamp worth ", "lamp;", "sign", "mend 1 ; "};
        for (String t : early) {
            CHECKS.due("39 ends too early: <" + t + ">", Checks.read(x, t), -1 - t.length());
        }
        Object[][] faults = {{";", 0}, {";lamp", 0}, {"lamp;;lamp", 5}, {"lamp lamp", 5}, {"lamp 5", 5}, {"at 5", 0},
            {"lamp at at 5", 8}, {"lamp at 5 at 5", 10}, {"lamp life 5 at 5", 12}, {"lamp worth 5 life 5", 13},
            {"lamp life 100", 10}, {"lamp worth 100", 11}, {"lamp steps 5", 5}, {"crew at 5", 5}, {"crew 4", 5},
            {"crew 0 at 100", 10}, {"crew 0 steps 1000", 13}, {"crew 0 steps 5 at 5", 15}, {"crew 0 life 5", 7},
            {"dust 10", 5}, {"wishes 10", 7}, {"mend 100", 5}, {"parts 10000", 6}, {"sign 0", 5}, {"sign 2", 5},
            {"sign lamp", 5}, {"dust 1 2", 7}, {"dust dust", 5}, {"dust ; 1", 5}, {"star", 0}, {"lamp,red", 4},
            {"red;nova", 4}, {"dust 3; # ;", 8}};
        for (Object[] f : faults) {
            CHECKS.due("39 <" + f[0] + ">", Checks.read(x, (String) f[0]), -1 - (int) (Integer) f[1]);
            CHECKS.due("39 the tape is empty then", x.count(5), 0);
        }
        CHECKS.due("39 nothing changed", x.count(1) * 10 + x.now(5), 11);
        CHECKS.due("51 a fault is no finding", x.status(-1), 0);
    }
}
