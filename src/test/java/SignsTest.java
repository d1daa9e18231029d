/** Promises 25 to 31: constellations, ships. */
final class SignsTest {
    private static final Checks CHECKS = new Checks();

    public static void main(String[] args) {
        sign();
        mayAndTells();
        told();
        ships();
        fullSky();
        CHECKS.end();
    }

    private static StarCrew sky(int... places) {
        StarCrew x = new StarCrew();
        for (int place : places) {
            x.star(0, place);
        }
        return x;
    }

    private static void sign() {
        StarCrew x = sky(1, 2, 3);
        CHECKS.due("25 none", x.sign(0), Checks.BEYOND);
        CHECKS.due("25 of more stars than there are", x.sign(8), Checks.BEYOND);
        CHECKS.due("25 negative", x.sign(-1), Checks.BEYOND);
        CHECKS.due("25 far", x.sign(Integer.MIN_VALUE), Checks.BEYOND);
        for (int i = 0; i < 6; i++) {
            CHECKS.due("25 its number", x.sign(i + 1), i);
            CHECKS.due("26 its set", x.signOf(i), i + 1);
        }
        CHECKS.due("25 a 7th", x.sign(7), Checks.FULL);
        CHECKS.due("25 a 7th of none", x.sign(0), Checks.BEYOND);
        CHECKS.due("26 no such", x.signOf(6), Checks.BEYOND);
        CHECKS.due("26 no such", x.signOf(-1), Checks.BEYOND);
    }

    private static void mayAndTells() {
        StarCrew x = sky(1, 2, 3, 4);
        CHECKS.due("28 there is none", x.tells(0), Checks.BEYOND);
        x.sign(7);
        CHECKS.due("28 the only one is told by none", x.tells(0), 0);
        CHECKS.due("27 none of 4", x.may(8), 0);
        x.sign(14);
        x.sign(11);
        CHECKS.due("27 the empty set", x.may(0), 7);
        CHECKS.due("27 star 1", x.may(2), 7);
        CHECKS.due("27 star 0", x.may(1), 5);
        CHECKS.due("27 stars 0 and 3", x.may(9), 4);
        CHECKS.due("27 all", x.may(15), 0);
        CHECKS.due("27 of more stars than there are", x.may(16), Checks.BEYOND);
        CHECKS.due("27 negative", x.may(-1), Checks.BEYOND);
        CHECKS.due("28 two stars", x.tells(0), 5);
        CHECKS.due("28 two stars", x.tells(1), 12);
        CHECKS.due("28 two stars", x.tells(2), 9);
        x.sign(15);
        CHECKS.due("28 a part of another", x.tells(0), Checks.NONE);
        CHECKS.due("28 the whole by its two others", x.tells(3), 13);
        x.sign(15);
        CHECKS.due("28 two alike", x.tells(3), Checks.NONE);
        CHECKS.due("28 no such", x.tells(5), Checks.BEYOND);
        CHECKS.due("28 no such", x.tells(-1), Checks.BEYOND);
        StarCrew whole = sky(1, 2);
        whole.sign(3);
        whole.sign(1);
        whole.sign(2);
        CHECKS.due("28 by nothing less than all of it", whole.tells(0), 3);
        StarCrew y = sky(1, 2, 3);
        y.sign(6);
        y.sign(1);
        CHECKS.due("28 of several the least", y.tells(0), 2);
    }

    private static void told() {
        StarCrew x = sky(1, 2, 3, 4);
        CHECKS.due("29 none there", x.told(), 0);
        x.sign(3);
        x.sign(12);
        CHECKS.due("29 both", x.told(), 3);
        x.change(0, 2, 9);
        CHECKS.due("29 by one of its stars", x.told(), 3);
        x.change(1, 2, 9);
        CHECKS.due("29 none of the first shines", x.told(), 2);
        x.sign(6);
        CHECKS.due("29 by what another hasn't", x.told(), 2);
        x.change(3, 2, 9);
        CHECKS.due("29 what is left is a part of both", x.told(), 0);
        StarCrew y = sky(1);
        y.sign(1);
        y.change(0, 2, 0);
        CHECKS.due("29 the only one is told by none", y.told(), 1);
    }

    private static void fullSky() {
        StarCrew x = sky(0, 10, 20, 30, 40, 50, 60, 70, 80, 90);
        int[] signs = {1023, 511, 1, 768, 512, 2};
        for (int set : signs) {
            x.sign(set);
        }
        CHECKS.due("27 the last star", x.may(512), 1 + 8 + 16);
        CHECKS.due("28 the whole sky", x.tells(0), 513);
        CHECKS.due("28 a part of others", x.tells(1), Checks.NONE);
        CHECKS.due("29 by all that shine", x.told(), 1);
        x.change(9, 2, 9);
        CHECKS.due("29 without the last", x.told(), 0);
        CHECKS.due("30 beside the last", x.steers(88), 8);
        CHECKS.due("31 of the last", x.sees(9), 0);
        x.change(9, 2, 10);
        CHECKS.due("31 of the last", x.sees(9), 9);
        CHECKS.due("30 at the last", x.steers(94), 9);
        CHECKS.due("30 between the last and the first", x.steers(95), 0);
    }

    private static void ships() {
        StarCrew x = sky(10, 20, 90);
        CHECKS.due("30 nearest", x.steers(12), 0);
        CHECKS.due("30 half way: the least", x.steers(15), 0);
        CHECKS.due("30 past half way", x.steers(16), 1);
        CHECKS.due("30 over the seam, alike: the least", x.steers(0), 0);
        CHECKS.due("30 over the seam", x.steers(99), 2);
        CHECKS.due("30 from far", x.steers(55), 1);
        CHECKS.due("30 place 100", x.steers(100), Checks.BEYOND);
        CHECKS.due("30 place -1", x.steers(-1), Checks.BEYOND);
        CHECKS.due("31 of the first", x.sees(0), 16);
        CHECKS.due("31 of the second", x.sees(1), 40);
        CHECKS.due("31 of the third", x.sees(2), 44);
        CHECKS.due("31 no such", x.sees(3), Checks.BEYOND);
        CHECKS.due("31 no such", x.sees(-1), Checks.BEYOND);
        x.change(0, 2, 9);
        CHECKS.due("30 the dark don't count", x.steers(10), 1);
        CHECKS.due("31 the dark aren't steered by", x.sees(0), 0);
        x.change(2, 2, 0);
        CHECKS.due("31 the only one", x.sees(1), 100);
        x.change(1, 2, 0);
        CHECKS.due("30 all dark", x.steers(10), Checks.NONE);
        CHECKS.due("30 all dark, no place", x.steers(100), Checks.BEYOND);
        CHECKS.due("31 all dark", x.sees(1), 0);
        StarCrew y = sky(7, 7);
        CHECKS.due("31 one place: the least", y.sees(0) * 1000 + y.sees(1), 100000);
    }
}
