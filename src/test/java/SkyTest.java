/** Promises 1 to 11: a new object, stars, crews, what is set, nights. */
final class SkyTest {
    private static final Checks CHECKS = new Checks();

    public static void main(String[] args) {
        newObject();
        star();
        of();
        wearAndDim();
        change();
        crews();
        set();
        apart();
        go();
        now();
        mends();
        CHECKS.end();
    }

    private static void newObject() {
        StarCrew x = new StarCrew();
        int[] counts = {0, 0, 0, 0, 0, 0, 1, 0};
        for (int what = 0; what < counts.length; what++) {
            CHECKS.due("1 count(" + what + ")", x.count(what), counts[what]);
        }
        int[] nows = {0, 0, 0, 0, 20, 1, 0};
        for (int what = 0; what < nows.length; what++) {
            CHECKS.due("1 now(" + what + ")", x.now(what), nows[what]);
        }
        for (int crew = 0; crew < 4; crew++) {
            CHECKS.due("1 AT of crew " + crew, x.crewOf(crew, 0), 0);
            CHECKS.due("1 STEPS of crew " + crew, x.crewOf(crew, 1), 60);
        }
        CHECKS.due("1 DUST", x.set(0, 0), 1);
        CHECKS.due("1 WISHES", x.set(1, 0), 0);
        CHECKS.due("1 MEND", x.set(2, 0), 5);
        CHECKS.due("1 PARTS", x.set(3, 0), 20);
        CHECKS.due("1 no image", x.tear(), 0);
        for (int which = -1; which < 7; which++) {
            CHECKS.due("1 status(" + which + ")", x.status(which), 0);
        }
        for (int spot = 0; spot < 10; spot++) {
            CHECKS.due("1 spot " + spot, x.as(spot, 0), Checks.MISSING);
        }
        for (int s = 0; s < 4; s++) {
            CHECKS.due("1 sheet " + s, x.load(s), Checks.MISSING);
        }
        StarCrew y = new StarCrew();
        x.star(0, 0);
        CHECKS.due("1 two objects share nothing", y.count(1), 0);
    }

    private static void star() {
        StarCrew x = new StarCrew();
        CHECKS.due("2 kind -1", x.star(-1, 0), Checks.BEYOND);
        CHECKS.due("2 kind 7", x.star(7, 0), Checks.BEYOND);
        CHECKS.due("2 place -1", x.star(0, -1), Checks.BEYOND);
        CHECKS.due("2 place 100", x.star(0, 100), Checks.BEYOND);
        for (int i = 0; i < 10; i++) {
            CHECKS.due("2 its number", x.star(i % 7, 99 - i), i);
            CHECKS.due("2 its kind", x.of(i, 0), i % 7);
            CHECKS.due("2 its place", x.of(i, 1), 99 - i);
            CHECKS.due("2 its life", x.of(i, 2), 50);
            CHECKS.due("2 its worth", x.of(i, 3), 1);
        }
        CHECKS.due("2 an 11th", x.star(0, 0), Checks.FULL);
        CHECKS.due("2 an 11th of no kind", x.star(7, 0), Checks.BEYOND);
        CHECKS.due("2 an 11th at no place", x.star(0, 100), Checks.BEYOND);
        CHECKS.due("2 there are ten", x.count(1), 10);
    }

    private static void of() {
        StarCrew x = new StarCrew();
        CHECKS.due("3 no star", x.of(0, 0), Checks.BEYOND);
        x.star(0, 5);
        CHECKS.due("3 star -1", x.of(-1, 0), Checks.BEYOND);
        CHECKS.due("3 star 1", x.of(1, 0), Checks.BEYOND);
        CHECKS.due("3 what -1", x.of(0, -1), Checks.BEYOND);
        CHECKS.due("3 what 7", x.of(0, 7), Checks.BEYOND);
        CHECKS.due("3 far", x.of(Integer.MIN_VALUE, Integer.MAX_VALUE), Checks.BEYOND);
        CHECKS.due("3 it shines", x.of(0, 6), 1);
    }

    private static void wearAndDim() {
        StarCrew x = new StarCrew();
        for (int kind = 0; kind < 7; kind++) {
            x.star(kind, kind);
            x.change(kind, 2, 69);
        }
        row(x, "dust 1, wishes 0, wear", 4, 2, 4, 1, 1, 1, 5, 8);
        row(x, "wishes 0, dim", 5, 9, 19, 4, 0, 0, 9, 19);
        x.set(0, 0);
        row(x, "dust 0, wishes 0, wear", 4, 1, 3, 0, 0, 0, 4, 6);
        x.set(0, 9);
        x.set(1, 4);
        row(x, "dust 9, wishes 4, wear", 4, 10, 12, 5, 5, 9, 13, 24);
        row(x, "wishes 4, dim", 5, 9, 19, 4, 0, 0, 13, 19);
        x.set(1, 5);
        row(x, "dust 9, wishes 5, wear", 4, 10, 12, 5, 6, 11, 13, 24);
        x.set(0, 8);
        x.set(1, 9);
        row(x, "dust 8, wishes 9, wear", 4, 9, 11, 4, 5, 14, 12, 22);
        row(x, "wishes 9, dim", 5, 9, 19, 4, 0, 0, 18, 19);
        int[] dims = {9, 19, 4, 0, 0, 18, 19};
        for (int kind = 0; kind < 7; kind++) {
            x.change(kind, 2, dims[kind]);
            CHECKS.due("3 at its dim kind " + kind + " is dark", x.of(kind, 6), 0);
            x.change(kind, 2, dims[kind] + 1);
            CHECKS.due("3 above its dim kind " + kind + " shines", x.of(kind, 6), 1);
        }
        x.set(0, 0);
        int[][] old = {{99, 1}, {90, 1}, {89, 2}, {80, 2}, {79, 3}, {0, 10}};
        for (int[] o : old) {
            x.change(5, 2, o[0]);
            CHECKS.due("3 an old one of life " + o[0], x.of(5, 4), o[1]);
        }
    }

    private static void row(StarCrew x, String name, int what, int... want) {
        for (int kind = 0; kind < want.length; kind++) {
            CHECKS.due("3 " + name + " of kind " + kind, x.of(kind, what), want[kind]);
        }
    }

    private static void change() {
        StarCrew x = new StarCrew();
        x.star(1, 7);
        x.star(2, 8);
        int[] most = {6, 99, 99, 99};
        int[] first = {2, 8, 50, 1};
        for (int what = 0; what < 4; what++) {
            CHECKS.due("4 below", x.change(1, what, -1), Checks.BEYOND);
            CHECKS.due("4 above", x.change(1, what, most[what] + 1), Checks.BEYOND);
            CHECKS.due("4 what it was", x.change(1, what, most[what]), first[what]);
            CHECKS.due("4 it becomes so", x.of(1, what), most[what]);
            CHECKS.due("4 back to 0", x.change(1, what, 0), most[what]);
            CHECKS.due("4 it is 0", x.of(1, what), 0);
        }
        CHECKS.due("4 wear can't be changed", x.change(0, 4, 0), Checks.BEYOND);
        CHECKS.due("4 what -1", x.change(0, -1, 0), Checks.BEYOND);
        CHECKS.due("4 star 2", x.change(2, 0, 0), Checks.BEYOND);
        CHECKS.due("4 star -1", x.change(-1, 0, 0), Checks.BEYOND);
        CHECKS.due("4 the other star stays", x.of(0, 0) * 1000 + x.of(0, 1) * 100 + x.of(0, 2), 1000 + 700 + 50);
    }

    private static void crews() {
        StarCrew x = new StarCrew();
        CHECKS.due("5 AT", x.crew(3, 0, 99), 0);
        CHECKS.due("5 STEPS", x.crew(3, 1, 999), 60);
        CHECKS.due("6 AT", x.crewOf(3, 0), 99);
        CHECKS.due("6 STEPS", x.crewOf(3, 1), 999);
        CHECKS.due("6 another crew", x.crewOf(2, 0), 0);
        CHECKS.due("5 back", x.crew(3, 0, 0), 99);
        CHECKS.due("5 no steps", x.crew(3, 1, 0), 999);
        int[][] wrong = {{-1, 0, 0}, {4, 0, 0}, {0, -1, 0}, {0, 2, 0}, {0, 0, -1}, {0, 0, 100}, {0, 1, -1}, {0, 1, 1000}};
        for (int[] a : wrong) {
            CHECKS.due("5 wrong", x.crew(a[0], a[1], a[2]), Checks.BEYOND);
        }
        for (int i = 0; i < 4; i++) {
            CHECKS.due("6 wrong", x.crewOf(wrong[i][0], wrong[i][1]), Checks.BEYOND);
        }
        CHECKS.due("51 all of these", x.status(0), 12);
    }

    private static void set() {
        StarCrew x = new StarCrew();
        int[] first = {1, 0, 5, 20};
        int[] most = {9, 9, 99, 9999};
        for (int what = 0; what < 4; what++) {
            CHECKS.due("7 above", x.set(what, most[what] + 1), Checks.BEYOND);
            CHECKS.due("7 below", x.set(what, -1), Checks.BEYOND);
            CHECKS.due("7 what it was", x.set(what, most[what]), first[what]);
            CHECKS.due("7 what it became", x.set(what, 0), most[what]);
        }
        CHECKS.due("7 what 4", x.set(4, 0), Checks.BEYOND);
        CHECKS.due("7 what -1", x.set(-1, 0), Checks.BEYOND);
    }

    private static void apart() {
        StarCrew x = new StarCrew();
        int[][] due = {{0, 0, 0}, {0, 50, 50}, {0, 51, 49}, {99, 0, 1}, {0, 99, 1}, {5, 95, 10}, {20, 70, 50}, {49, 99, 50}};
        for (int[] d : due) {
            CHECKS.due("8 apart(" + d[0] + ", " + d[1] + ")", x.apart(d[0], d[1]), d[2]);
        }
        int[][] wrong = {{-1, 0}, {0, -1}, {100, 0}, {0, 100}, {Integer.MIN_VALUE, Integer.MAX_VALUE}};
        for (int[] a : wrong) {
            CHECKS.due("8 wrong", x.apart(a[0], a[1]), Checks.BEYOND);
        }
    }

    private static void go() {
        StarCrew x = new StarCrew();
        CHECKS.due("9 without stars", x.go(60), 0);
        CHECKS.due("9 nights", x.now(0), 60);
        int[] kinds = {0, 1, 2, 3, 4, 5, 6};
        for (int kind : kinds) {
            x.star(kind, 0);
        }
        CHECKS.due("9 one night", x.go(1), 7);
        int[] lives = {48, 46, 49, 49, 49, 44, 42};
        for (int i = 0; i < 7; i++) {
            CHECKS.due("9 life of kind " + i, x.of(i, 2), lives[i]);
        }
        CHECKS.due("9 an old one wears more, the older it is", x.go(1) * 100 + x.of(5, 2), 700 + 37);
        CHECKS.due("9 two go out", x.go(5), 5);
        CHECKS.due("9 to the end", x.go(60), 0);
        CHECKS.due("9 life isn't below 0", x.now(2), 0);
        CHECKS.due("9 nights", x.now(0), 127);
        CHECKS.due("9 n 0", x.go(0), Checks.BEYOND);
        CHECKS.due("9 n 61", x.go(61), Checks.BEYOND);
        CHECKS.due("9 n -1", x.go(-1), Checks.BEYOND);
        CHECKS.due("9 nothing changed", x.now(0), 127);
        lastNight();
    }

    /** NIGHT comes so far only by more calls than an object is promised for; the bound is looked at all the same. */
    private static void lastNight() {
        StarCrew x = new StarCrew();
        for (int i = 0; i < 1666; i++) {
            x.go(60);
        }
        CHECKS.due("9 40 nights from 99960", x.go(40), Checks.STATE);
        CHECKS.due("34 20 nights from 99960", x.drops(20), 0);
        CHECKS.due("34 20 nights from 99980", x.drops(20), Checks.STATE);
        CHECKS.due("9 20 nights from 99980", x.go(20), Checks.STATE);
        CHECKS.due("34 to the last", x.drops(19), 0);
        CHECKS.due("9 one too many", x.go(1), Checks.STATE);
        CHECKS.due("9 the last night", x.now(0), 99999);
        CHECKS.due("9 wrong and too late", x.go(61), Checks.BEYOND);
        CHECKS.due("34 wrong and too late", x.drops(21), Checks.BEYOND);
        CHECKS.due("51 STATE", x.status(4), 4);
        StarCrew y = new StarCrew();
        for (int i = 0; i < 1666; i++) {
            y.go(60);
        }
        CHECKS.due("9 to the last", y.go(39) * 100000 + y.now(0), 99999);
        CHECKS.due("34 one too many", y.drops(1), Checks.STATE);
    }

    private static void now() {
        StarCrew x = new StarCrew();
        x.star(0, 0);
        x.star(1, 0);
        x.star(3, 0);
        x.change(0, 3, 10);
        x.change(1, 3, 20);
        x.change(2, 3, 40);
        x.change(1, 2, 19);
        x.set(0, 7);
        x.set(1, 3);
        x.set(3, 123);
        x.go(1);
        int[] due = {1, 5, 42 + 9 + 46, 50, 123, 7, 3};
        for (int what = 0; what < due.length; what++) {
            CHECKS.due("10 now(" + what + ")", x.now(what), due[what]);
        }
        CHECKS.due("10 what 7", x.now(7), Checks.BEYOND);
        CHECKS.due("10 what -1", x.now(-1), Checks.BEYOND);
    }

    private static void mends() {
        StarCrew x = new StarCrew();
        x.star(0, 90);
        x.star(0, 20);
        x.set(3, 2);
        x.crew(1, 1, 0);
        CHECKS.due("11 steps alone, STEPS don't matter", x.mends(1, 0), 10);
        CHECKS.due("11 life", x.of(0, 2), 99);
        CHECKS.due("11 parts", x.now(4), 1);
        CHECKS.due("11 crew", x.crewOf(1, 0), 90);
        CHECKS.due("11 the other crew", x.crewOf(0, 0), 0);
        CHECKS.due("11 no crew", x.mends(4, 0), Checks.BEYOND);
        CHECKS.due("11 no crew", x.mends(-1, 0), Checks.BEYOND);
        CHECKS.due("11 no star", x.mends(0, 2), Checks.BEYOND);
        CHECKS.due("11 no star", x.mends(0, -1), Checks.BEYOND);
        CHECKS.due("11 from there on", x.mends(1, 1), 30);
        CHECKS.due("11 no parts", x.mends(1, 0), Checks.STATE);
        CHECKS.due("11 no parts, no star", x.mends(1, 2), Checks.BEYOND);
        CHECKS.due("11 it stays there", x.crewOf(1, 0), 20);
    }
}
