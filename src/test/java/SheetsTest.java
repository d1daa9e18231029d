/** Promises 32 and 33, 40 to 46: what dimmed, spots, sheets. */
final class SheetsTest {
    private static final Checks CHECKS = new Checks();
    private static final int MIN = Integer.MIN_VALUE;
    private static final int MAX = Integer.MAX_VALUE;

    public static void main(String[] args) {
        which();
        kinds();
        hold();
        sheet();
        write();
        copy();
        load();
        judge();
        CHECKS.end();
    }

    private static StarCrew allKinds() {
        StarCrew x = new StarCrew();
        for (int kind = 0; kind < 7; kind++) {
            x.star(kind, 10 * kind);
        }
        return x;
    }

    private static void which() {
        StarCrew x = allKinds();
        CHECKS.due("32 no sheet", x.which(0), Checks.MISSING);
        CHECKS.due("32 sheet 4", x.which(4), Checks.BEYOND);
        CHECKS.due("32 sheet -1", x.which(-1), Checks.BEYOND);
        x.sheet(0, 8, 0);
        CHECKS.due("32 it tells nothing", x.which(0), 127);
        Checks.fill(x, 0, 8, 50, 49, 48);
        CHECKS.due("32 less by 1", x.which(0), 4 + 8 + 16);
        Checks.fill(x, 0, 16, -1, -1, 46);
        CHECKS.due("32 any, any, 46", x.which(0), 1);
        Checks.fill(x, 0, 32, 50, 44, -1, 29);
        CHECKS.due("32 an old one", x.which(0), 32);
        Checks.fill(x, 0, 32, 50, 44, -1, 30);
        CHECKS.due("32 none", x.which(0), 0);
        Checks.fill(x, 0, 32, 49);
        CHECKS.due("32 not so now", x.which(0), 0);
        Checks.fill(x, 0, 32, -2);
        CHECKS.due("32 -2 is not any", x.which(0), 0);
        x.change(6, 2, 12);
        Checks.fill(x, 0, 8, 12, 4, 0, 0);
        CHECKS.due("32 down to 0", x.which(0), 64);
    }

    private static void kinds() {
        StarCrew x = allKinds();
        CHECKS.due("33 no sheet", x.kinds(1, 0), Checks.MISSING);
        CHECKS.due("33 no sheet, no star", x.kinds(1, 7), Checks.MISSING);
        CHECKS.due("33 sheet 4", x.kinds(4, 0), Checks.BEYOND);
        CHECKS.due("33 sheet -1", x.kinds(-1, 0), Checks.BEYOND);
        Checks.fill(x, 1, 8, 50, 49);
        CHECKS.due("33 no star", x.kinds(1, 7), Checks.BEYOND);
        CHECKS.due("33 no star", x.kinds(1, -1), Checks.BEYOND);
        CHECKS.due("33 fixed, pole, guide", x.kinds(1, 0), 3);
        Checks.fill(x, 1, 8, 50, -1);
        CHECKS.due("33 any", x.kinds(1, 6), 7);
        Checks.fill(x, 1, 8, 50, 42);
        CHECKS.due("33 a giant alone, whatever it is", x.kinds(1, 0), 1);
        Checks.fill(x, 1, 8, 51);
        CHECKS.due("33 none", x.kinds(1, 0), 0);
        CHECKS.due("33 its kind stays", x.of(0, 0), 0);
    }

    private static void hold() {
        StarCrew x = allKinds();
        CHECKS.due("40 spot 10", x.hold(10, 0), Checks.BEYOND);
        CHECKS.due("40 spot -1", x.hold(-1, 0), Checks.BEYOND);
        CHECKS.due("40 star 7", x.hold(0, 7), Checks.BEYOND);
        CHECKS.due("40 star -2", x.hold(0, -2), Checks.BEYOND);
        boolean[][] under = new boolean[7][7];
        int[][] lines = {{0}, {1, 0}, {2, 0}, {3, 2, 0}, {4, 3, 2, 0}, {5, 0}, {6, 1, 0}};
        for (int kind = 0; kind < 7; kind++) {
            for (int over : lines[kind]) {
                under[kind][over] = true;
            }
        }
        for (int star = 0; star < 7; star++) {
            CHECKS.due("40 it holds", x.hold(9, star), 1);
            for (int kind = 0; kind < 7; kind++) {
                CHECKS.due("41 " + star + " as " + kind, x.as(9, kind), under[star][kind] ? star : Checks.KIND);
            }
        }
        CHECKS.due("41 another spot", x.as(8, 0), Checks.MISSING);
        CHECKS.due("41 kind 7", x.as(9, 7), Checks.BEYOND);
        CHECKS.due("41 kind -1", x.as(8, -1), Checks.BEYOND);
        CHECKS.due("41 spot 10", x.as(10, 0), Checks.BEYOND);
        CHECKS.due("41 spot -1", x.as(-1, 0), Checks.BEYOND);
        x.change(6, 0, 4);
        CHECKS.due("41 as what it is by now", x.as(9, 3), 6);
        CHECKS.due("40 nothing", x.hold(9, -1), 1);
        CHECKS.due("41 nothing", x.as(9, 0), Checks.MISSING);
        CHECKS.due("50 no spot holds", x.count(7), 0);
    }

    private static void sheet() {
        StarCrew x = new StarCrew();
        CHECKS.due("42 40 numbers", x.sheet(3, 32, 40), 40);
        CHECKS.due("42 no numbers", x.sheet(3, 16, 0), 0);
        CHECKS.due("42 it is there", x.load(3), 0);
        CHECKS.due("42 MISSING", x.sheet(3, 0, 5), 0);
        CHECKS.due("42 it is MISSING", x.load(3), Checks.MISSING);
        CHECKS.due("42 sheet 4", x.sheet(4, 8, -1), Checks.BEYOND);
        CHECKS.due("42 sheet -1", x.sheet(-1, 8, 0), Checks.BEYOND);
        CHECKS.due("42 7 bits", x.sheet(0, 7, -1), Checks.BEYOND);
        CHECKS.due("42 64 bits", x.sheet(0, 64, 1), Checks.BEYOND);
        CHECKS.due("42 -8 bits", x.sheet(0, -8, 1), Checks.BEYOND);
        CHECKS.due("42 n -1", x.sheet(0, 8, -1), Checks.SIZE);
        CHECKS.due("42 n -1, bits 0", x.sheet(0, 0, -1), Checks.SIZE);
        CHECKS.due("42 n far below", x.sheet(0, 8, MIN), Checks.SIZE);
        CHECKS.due("42 n 41", x.sheet(0, 8, 41), Checks.BEYOND);
        CHECKS.due("42 n 41, bits 0", x.sheet(0, 0, 41), Checks.BEYOND);
        CHECKS.due("42 n far above", x.sheet(0, 8, MAX), Checks.BEYOND);
        CHECKS.due("42 still MISSING", x.load(0), Checks.MISSING);
        x.star(0, 0);
        Checks.fill(x, 0, 8, 77);
        x.sheet(0, 0, 41);
        CHECKS.due("42 a finding changes nothing", x.load(0) * 100 + x.of(0, 2), 177);
        x.sheet(0, 8, 1);
        CHECKS.due("42 all 0 again", x.load(0) * 100 + x.of(0, 2), 100);
    }

    /** What a number of a sheet is, as a star of that LIFE finds it; -1 for any and beyond LIFE. */
    private static void isNumber(String what, StarCrew x, int s, int i, int life) {
        x.sheet(3, 0, 0);
        x.sheet(3, 8, 1);
        int moved = x.copy(s, i, 3, 0, 1);
        CHECKS.due(what + ": copied", moved, 1);
        x.change(0, 2, life);
        CHECKS.due(what, x.which(3) & 1, 1);
        x.change(0, 2, life == 0 ? 1 : life - 1);
        CHECKS.due(what + ": no other", x.which(3) & 1, 0);
    }

    private static void write() {
        StarCrew x = new StarCrew();
        x.star(2, 0);
        CHECKS.due("43 MISSING", x.write(0, 0, 0), Checks.MISSING);
        CHECKS.due("43 MISSING, no such number", x.write(0, -1, 0), Checks.MISSING);
        CHECKS.due("43 sheet 4", x.write(4, 0, 0), Checks.BEYOND);
        CHECKS.due("43 sheet -1", x.write(-1, 0, 0), Checks.BEYOND);
        x.sheet(0, 8, 2);
        CHECKS.due("43 number 2", x.write(0, 2, 0), Checks.BEYOND);
        CHECKS.due("43 number -1", x.write(0, -1, 0), Checks.BEYOND);
        CHECKS.due("43 it is written", x.write(0, 1, 256 + 33), 1);
        isNumber("43 lowest 8 bits", x, 0, 1, 33);
        isNumber("43 the other stays", x, 0, 0, 0);
        int[][] bits = {{8, 255}, {8, -1}, {16, 65535}, {16, 0x7fffffff}, {32, -1}};
        for (int[] b : bits) {
            Checks.fill(x, 1, b[0], b[1]);
            CHECKS.due("43 " + b[1] + " of " + b[0] + " bits is -1", x.which(1), 1);
        }
        int[][] none = {{8, 128 + 50}, {16, 255}, {16, 32768 + 50}, {32, 65535}, {32, 256 + 50}, {16, 256 + 50}};
        x.change(0, 2, 50);
        for (int[] b : none) {
            Checks.fill(x, 1, b[0], b[1]);
            CHECKS.due("43 " + b[1] + " of " + b[0] + " bits is neither -1 nor 50", x.which(1), 0);
        }
        int[][] fifty = {{8, 256 + 50}, {16, 65536 + 50}, {32, 50}, {8, -206}};
        for (int[] b : fifty) {
            Checks.fill(x, 1, b[0], b[1]);
            CHECKS.due("43 " + b[1] + " of " + b[0] + " bits is 50", x.kinds(1, 0), 7);
            CHECKS.due("43 " + b[1] + " of " + b[0] + " bits is 50", x.load(1), 1);
        }
    }

    private static void copy() {
        StarCrew x = new StarCrew();
        x.star(2, 0);
        CHECKS.due("44 sheet 4", x.copy(4, 0, 0, 0, 0), Checks.BEYOND);
        CHECKS.due("44 to sheet 4", x.copy(0, 0, 4, 0, 0), Checks.BEYOND);
        CHECKS.due("44 from MISSING to sheet -1", x.copy(0, 0, -1, 0, 0), Checks.BEYOND);
        CHECKS.due("44 MISSING", x.copy(0, 0, 1, 0, 0), Checks.MISSING);
        Checks.fill(x, 0, 8, 1, 2, 3, 4, 5);
        CHECKS.due("44 to MISSING", x.copy(0, 0, 1, 0, 99), Checks.MISSING);
        CHECKS.due("44 from MISSING", x.copy(1, 0, 0, 0, 99), Checks.MISSING);
        x.sheet(1, 16, 5);
        CHECKS.due("44 other bits", x.copy(0, 0, 1, 0, 99), Checks.KIND);
        x.sheet(1, 8, 4);
        int[][] wrong = {{-1, 0, 1}, {0, -1, 1}, {0, 0, -1}, {5, 0, 1}, {0, 4, 1}, {0, 0, 5}, {1, 0, 5}, {2, 1, 4},
            {6, 0, 0}, {0, 5, 0}, {MAX, 0, 1}, {0, MAX, 1}, {1, 1, MAX}, {MAX, MAX, MAX}, {0, 0, MIN}, {MIN, MIN, MIN}};
        for (int[] a : wrong) {
            CHECKS.due("44 from " + a[0] + " to " + a[1] + " n " + a[2], x.copy(0, a[0], 1, a[1], a[2]), Checks.BEYOND);
        }
        CHECKS.due("44 none, at the end", x.copy(0, 5, 1, 4, 0), 0);
        CHECKS.due("44 all that has room", x.copy(0, 1, 1, 0, 4), 4);
        for (int i = 0; i < 4; i++) {
            isNumber("44 number " + i, x, 1, i, i + 2);
        }
        CHECKS.due("44 onto itself, on", x.copy(0, 0, 0, 1, 4), 4);
        int[] on = {1, 1, 2, 3, 4};
        for (int i = 0; i < 5; i++) {
            isNumber("44 on: number " + i, x, 0, i, on[i]);
        }
        CHECKS.due("44 onto itself, back", x.copy(0, 2, 0, 0, 3), 3);
        int[] back = {2, 3, 4, 3, 4};
        for (int i = 0; i < 5; i++) {
            isNumber("44 back: number " + i, x, 0, i, back[i]);
        }
    }

    private static void load() {
        StarCrew x = new StarCrew();
        CHECKS.due("45 MISSING", x.load(0), Checks.MISSING);
        CHECKS.due("45 sheet 4", x.load(4), Checks.BEYOND);
        CHECKS.due("45 sheet -1", x.load(-1), Checks.BEYOND);
        Checks.fill(x, 0, 32, 7, 99, 0, 100, 5);
        CHECKS.due("45 no stars", x.load(0), 0);
        x.star(0, 0);
        x.star(0, 0);
        CHECKS.due("45 as many as stars", x.load(0), 2);
        CHECKS.due("45 so they are", x.of(0, 2) * 100 + x.of(1, 2), 799);
        for (int i = 0; i < 3; i++) {
            x.star(0, 0);
        }
        CHECKS.due("45 up to the first that isn't", x.load(0), 3);
        CHECKS.due("45 up to there", x.of(2, 2) * 10000 + x.of(3, 2) * 100 + x.of(4, 2), 5050);
        Checks.fill(x, 0, 32, -1, 1);
        CHECKS.due("45 -1 is none", x.load(0), 0);
        Checks.fill(x, 0, 32, 1, MIN);
        CHECKS.due("45 far below", x.load(0), 1);
    }

    private static void judge() {
        StarCrew x = new StarCrew();
        CHECKS.due("46 MISSING", x.judge(0), Checks.MISSING);
        CHECKS.due("46 sheet 4", x.judge(4), Checks.BEYOND);
        CHECKS.due("46 sheet -1", x.judge(-1), Checks.BEYOND);
        x.star(0, 10);
        x.star(0, 95);
        x.star(0, 20);
        x.sheet(0, 8, 0);
        CHECKS.due("46 an empty one", x.judge(0), 0);
        x.set(3, 0);
        Checks.fill(x, 0, 8, 1, 0, 2);
        CHECKS.due("46 5 + 15 + 10 + 15 of 60", x.judge(0), 0);
        x.crew(0, 1, 45);
        CHECKS.due("46 just so", x.judge(0), 0);
        x.crew(0, 1, 44);
        CHECKS.due("46 one too few", x.judge(0), 3);
        x.crew(0, 1, 9);
        CHECKS.due("46 not even the first", x.judge(0), 1);
        x.crew(0, 1, 999);
        x.crew(1, 1, 0);
        x.crew(1, 0, 50);
        CHECKS.due("46 crew 0 alone", x.judge(0), 0);
        x.crew(0, 1, 45);
        CHECKS.due("46 from where crew 0 is", x.judge(0), 0);
        x.crew(0, 0, 50);
        CHECKS.due("46 from where crew 0 is", x.judge(0), 1);
        x.crew(0, 0, 0);
        x.crew(0, 1, 999);
        Checks.fill(x, 0, 8, 1, 0, 1, 9);
        CHECKS.due("46 one twice", x.judge(0), 3);
        Checks.fill(x, 0, 8, 1, 3);
        CHECKS.due("46 no star", x.judge(0), 2);
        Checks.fill(x, 0, 32, -1);
        CHECKS.due("46 -1 is no star", x.judge(0), 1);
        Checks.fill(x, 0, 32, 0, MIN);
        CHECKS.due("46 far below", x.judge(0), 2);
        Checks.fill(x, 0, 32, 0, 33);
        CHECKS.due("46 33 is no star", x.judge(0), 2);
        CHECKS.due("46 nothing changes", x.crewOf(0, 0) * 100 + x.of(1, 2), 50);
    }
}
