import java.util.ArrayDeque;
import java.util.Arrays;
import java.util.Random;

/** Promises 19 to 24: ROUNDS. Ways are also found by walking the ring step by step, whatever the turns. */
final class RoundsTest {
    private static final Checks CHECKS = new Checks();

    public static void main(String[] args) {
        round();
        best();
        from();
        share();
        wrongInputs();
        for (int seed = 0; seed < 40; seed++) {
            againstWalks(new Random(seed));
        }
        CHECKS.end();
    }

    private static StarCrew sky(int... places) {
        StarCrew x = new StarCrew();
        for (int place : places) {
            x.star(0, place);
        }
        return x;
    }

    private static void round() {
        StarCrew x = sky(10, 30, 95, 0, 50);
        CHECKS.due("19 none", x.round(0, 0), 0);
        CHECKS.due("19 one way", x.round(0, 3), 30 + 10);
        CHECKS.due("19 the other way", x.round(0, 4), 5 + 5);
        CHECKS.due("19 first back, then on", x.round(0, 7), 5 + 5 + 30 + 15);
        CHECKS.due("19 a star where it stands", x.round(0, 8), 5);
        CHECKS.due("19 half way round", x.round(0, 16), 50 + 5);
        CHECKS.due("19 all", x.round(3, 31), 5 + 5 + 50 + 25);
        x.crew(1, 0, 90);
        CHECKS.due("19 over the seam", x.round(1, 13), 20 + 15);
        x.set(2, 0);
        CHECKS.due("19 mending is free", x.round(1, 13), 20);
        x.set(2, 99);
        CHECKS.due("19 mending is dear", x.round(1, 13), 20 + 3 * 99);
        StarCrew y = sky(33, 66);
        CHECKS.due("19 two ways alike", y.round(0, 3), 66 + 10);
        StarCrew z = sky(40, 60);
        CHECKS.due("19 right round beats turning back", z.round(0, 3), 60 + 10);
    }

    private static void best() {
        StarCrew x = sky(10, 30, 95);
        x.change(0, 3, 4);
        x.change(1, 3, 9);
        x.change(2, 3, 3);
        CHECKS.due("20 all", x.best(0), 7);
        CHECKS.due("21 all", x.bestWorth(0), 16);
        x.crew(0, 1, 55);
        CHECKS.due("20 just enough steps", x.best(0), 7);
        x.crew(0, 1, 54);
        CHECKS.due("20 one step too few", x.best(0), 3);
        CHECKS.due("21 one step too few", x.bestWorth(0), 13);
        x.set(3, 1);
        CHECKS.due("20 one part", x.best(0), 2);
        x.set(3, 0);
        CHECKS.due("20 no part", x.best(0), 0);
        CHECKS.due("21 no part", x.bestWorth(0), 0);
        x.set(3, 1);
        x.change(0, 3, 9);
        CHECKS.due("20 of several the least", x.best(0), 1);
        x.change(0, 3, 0);
        x.change(1, 3, 0);
        x.change(2, 3, 0);
        CHECKS.due("20 nothing is worth it", x.best(0), 0);
        StarCrew one = sky(1);
        CHECKS.due("20 worth 1", one.best(0) * 10 + one.bestWorth(0), 11);
        StarCrew ten = sky(0, 1, 2, 3, 4, 5, 6, 7, 8, 9);
        ten.crew(0, 1, 58);
        CHECKS.due("20 nine of ten", ten.best(0) * 100 + ten.bestWorth(0), 51109);
        ten.crew(0, 1, 999);
        CHECKS.due("20 ten of ten", ten.best(0) * 100 + ten.bestWorth(0), 102310);
        StarCrew y = sky(1, 2, 3);
        y.change(0, 3, 2);
        y.change(1, 3, 2);
        y.change(2, 3, 4);
        y.set(3, 2);
        y.crew(1, 1, 12);
        CHECKS.due("20 more worth by another set", y.best(0), 5);
        CHECKS.due("20 few steps: the least of worth 4", y.best(1), 3);
        y.crew(1, 1, 0);
        CHECKS.due("20 no steps", y.best(1), 0);
    }

    private static void from() {
        StarCrew x = sky(10, 20, 95);
        CHECKS.due("22 none", x.from(0, 0), 0);
        CHECKS.due("22 one", x.from(0, 2), 20);
        CHECKS.due("22 either end: the least", x.from(0, 3), 10);
        CHECKS.due("22 over the seam", x.from(1, 7), 20);
        CHECKS.due("22 over the seam, two", x.from(1, 5), 10);
    }

    private static void share() {
        StarCrew x = sky(10, 20, 90, 80);
        x.crew(1, 0, 99);
        CHECKS.due("23 each its side", x.share(0, 1, 15), 3);
        CHECKS.due("24 each its side", x.longer(0, 1, 15), 30);
        CHECKS.due("23 the other one first", x.share(1, 0, 15), 12);
        CHECKS.due("24 the other one first", x.longer(1, 0, 15), 30);
        CHECKS.due("23 of a part", x.share(0, 1, 9), 1);
        CHECKS.due("24 of a part", x.longer(0, 1, 9), 24);
        CHECKS.due("23 none", x.share(2, 3, 0), 0);
        CHECKS.due("24 none", x.longer(2, 3, 0), 0);
        CHECKS.due("23 of several the least", x.share(2, 3, 15), 3);
        x.crew(3, 0, 50);
        CHECKS.due("23 the first takes all", x.share(2, 3, 1), 1);
        CHECKS.due("24 the first takes all", x.longer(2, 3, 1), 15);
        CHECKS.due("23 the second takes all", x.share(3, 2, 1), 0);
        CHECKS.due("24 the second takes all", x.longer(3, 2, 1), 15);
        x.set(3, 0);
        x.crew(0, 1, 0);
        CHECKS.due("23 parts and steps don't matter", x.share(0, 1, 15), 3);
    }

    private static void wrongInputs() {
        StarCrew x = sky(10, 20);
        int[][] sets = {{-1, 0}, {4, 0}, {0, 4}, {0, -1}, {0, Integer.MIN_VALUE}, {3, 1 << 30}, {Integer.MAX_VALUE, 3}};
        for (int[] a : sets) {
            CHECKS.due("19 " + Arrays.toString(a), x.round(a[0], a[1]), Checks.BEYOND);
            CHECKS.due("22 " + Arrays.toString(a), x.from(a[0], a[1]), Checks.BEYOND);
            CHECKS.due("23 first " + Arrays.toString(a), x.share(a[0], 2, a[1]), Checks.BEYOND);
            CHECKS.due("24 second " + Arrays.toString(a), x.longer(2, a[0], a[1]), Checks.BEYOND);
        }
        CHECKS.due("20 no such crew", x.best(4), Checks.BEYOND);
        CHECKS.due("20 no such crew", x.best(-1), Checks.BEYOND);
        CHECKS.due("21 no such crew", x.bestWorth(4), Checks.BEYOND);
        CHECKS.due("21 no such crew", x.bestWorth(-1), Checks.BEYOND);
        CHECKS.due("23 one and the same", x.share(1, 1, 3), Checks.BEYOND);
        CHECKS.due("24 one and the same", x.longer(1, 1, 3), Checks.BEYOND);
        CHECKS.due("51 all of these", x.status(0), 4 * 7 + 6);
    }

    private static void againstWalks(Random draw) {
        int stars = 1 + draw.nextInt(7);
        int[] places = new int[stars];
        for (int i = 0; i < stars; i++) {
            places[i] = draw.nextInt(100);
        }
        StarCrew x = sky(places);
        x.set(2, 0);
        int start = draw.nextInt(100);
        x.crew(2, 0, start);
        int[] fewest = walks(places, start);
        for (int set = 0; set < 1 << stars; set++) {
            CHECKS.due("19 " + Arrays.toString(places) + " from " + start + " by " + set, x.round(2, set), fewest[set]);
        }
    }

    /** Of each set the fewest steps by which all of it has been passed. */
    private static int[] walks(int[] places, int start) {
        int sets = 1 << places.length;
        int[] first = new int[sets];
        Arrays.fill(first, Integer.MAX_VALUE);
        int[][] steps = new int[100][sets];
        for (int[] row : steps) {
            Arrays.fill(row, -1);
        }
        ArrayDeque<int[]> open = new ArrayDeque<>();
        int begin = passed(places, start, 0);
        steps[start][begin] = 0;
        open.add(new int[] {start, begin});
        while (!open.isEmpty()) {
            int[] at = open.remove();
            int now = steps[at[0]][at[1]];
            for (int part = at[1]; ; part = (part - 1) & at[1]) {
                first[part] = Math.min(first[part], now);
                if (part == 0) {
                    break;
                }
            }
            for (int step = -1; step <= 1; step += 2) {
                int place = Math.floorMod(at[0] + step, 100);
                int set = passed(places, place, at[1]);
                if (steps[place][set] < 0) {
                    steps[place][set] = now + 1;
                    open.add(new int[] {place, set});
                }
            }
        }
        return first;
    }

    private static int passed(int[] places, int place, int set) {
        int now = set;
        for (int i = 0; i < places.length; i++) {
            if (places[i] == place) {
                now |= 1 << i;
            }
        }
        return now;
    }
}
