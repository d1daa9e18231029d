/** Promises 47 to 51: images, counts, findings. */
final class ImagesTest {
    private static final Checks CHECKS = new Checks();

    public static void main(String[] args) {
        undo();
        latestCounts();
        count();
        status();
        findingsChangeNothing();
        CHECKS.end();
    }

    private static StarCrew sky() {
        StarCrew x = new StarCrew();
        Checks.read(x, "lamp at 5 life 40 worth 7;pole;sign 3;crew 2 at 8 steps 70;mend 3;parts 11");
        x.hold(4, 1);
        x.seed(99);
        x.go(2);
        return x;
    }

    private static void undo() {
        StarCrew x = sky();
        CHECKS.due("48 nothing kept", x.undo(), Checks.NONE);
        CHECKS.due("49 nothing kept", x.tear(), 0);
        CHECKS.due("47 kept", x.image(), 1);
        x.go(3);
        x.star(1, 1);
        x.change(0, 0, 6);
        x.change(0, 1, 66);
        x.change(0, 3, 77);
        x.sign(4);
        x.crew(2, 0, 0);
        x.crew(2, 1, 0);
        for (int what = 0; what < 4; what++) {
            x.set(what, 9);
        }
        x.hold(4, 2);
        x.hold(5, 0);
        x.seed(5);
        x.sheet(0, 8, 3);
        x.feed(0, 2);
        CHECKS.due("48 its NIGHT", x.undo(), 2);
        asKept(x);
        CHECKS.due("48 SHEETS stay as they are", x.judge(0), 2);
        CHECKS.due("48 THE TAPE stays as it is", x.count(5), 2);
        x.drops(5);
        x.hold(4, -1);
        CHECKS.due("48 it stays kept", x.undo(), 2);
        asKept(x);
        CHECKS.due("49 something was", x.tear(), 1);
        CHECKS.due("49 nothing now", x.tear(), 0);
        CHECKS.due("48 nothing now", x.undo(), Checks.NONE);
        asKept(x);
        CHECKS.due("51 undo takes none back", x.status(3), 2);
    }

    private static void asKept(StarCrew x) {
        int[][] stars = {{0, 5, 36, 7}, {3, 0, 48, 1}};
        for (int star = 0; star < 2; star++) {
            for (int what = 0; what < 4; what++) {
                CHECKS.due("48 of(" + star + ", " + what + ")", x.of(star, what), stars[star][what]);
            }
        }
        CHECKS.due("48 stars", x.count(1), 2);
        CHECKS.due("48 nights", x.now(0), 2);
        CHECKS.due("48 signs", x.count(3) * 10 + x.signOf(0), 13);
        CHECKS.due("48 crew", x.crewOf(2, 0) * 100 + x.crewOf(2, 1), 870);
        CHECKS.due("48 parts, dust, wishes", x.now(4) * 100 + x.now(5) * 10 + x.now(6), 1110);
        CHECKS.due("48 mend", x.round(2, 1), 6);
        CHECKS.due("48 spots", x.count(7) * 10 + x.as(4, 2), 11);
        CHECKS.due("48 z", x.count(6), 99);
    }

    private static void latestCounts() {
        StarCrew x = new StarCrew();
        x.image();
        x.go(1);
        x.image();
        x.go(1);
        CHECKS.due("48 the latest", x.undo(), 1);
        CHECKS.due("48 and again", x.undo(), 1);
        CHECKS.due("49 all of them", x.tear(), 1);
        CHECKS.due("48 none is left below", x.undo(), Checks.NONE);
        StarCrew y = new StarCrew();
        y.image();
        Checks.read(y, "lamp;lamp");
        CHECKS.due("48 what a text told is undone", y.undo() * 10 + y.count(1), 0);
    }

    private static void count() {
        StarCrew x = sky();
        x.change(0, 2, 9);
        x.hold(9, 0);
        x.feed(0, 3);
        x.seed(-1000004);
        int[] due = {2, 2, 1, 1, 57, 3, -1000004, 2};
        for (int what = 0; what < due.length; what++) {
            CHECKS.due("50 count(" + what + ")", x.count(what), due[what]);
        }
        CHECKS.due("51 z is no finding", x.status(-1), 0);
        for (int spot = 0; spot < 10; spot++) {
            x.hold(spot, 0);
        }
        CHECKS.due("50 all spots hold", x.count(7), 10);
        CHECKS.due("50 what 8", x.count(8), Checks.BEYOND);
        CHECKS.due("50 what -1", x.count(-1), Checks.BEYOND);
    }

    private static void status() {
        StarCrew x = new StarCrew();
        CHECKS.due("51 another one", x.status(7), Checks.BEYOND);
        CHECKS.due("51 counted from then on", x.status(0), 1);
        CHECKS.due("51 another one", x.status(-2), Checks.BEYOND);
        CHECKS.due("51 another one", x.status(Integer.MIN_VALUE), Checks.BEYOND);
        CHECKS.due("51 counted from then on", x.status(-1), 3);
        for (int i = 0; i < 10; i++) {
            x.star(1, 0);
        }
        x.star(1, 0);
        x.hold(0, 0);
        x.as(0, 2);
        x.as(0, 5);
        for (int i = 0; i < 3; i++) {
            x.undo();
        }
        x.set(3, 0);
        for (int i = 0; i < 4; i++) {
            x.mends(0, 0);
        }
        for (int i = 0; i < 5; i++) {
            x.load(i % 4);
        }
        for (int i = 0; i < 6; i++) {
            x.sheet(0, 8, -1);
        }
        int[] due = {3, 1, 2, 3, 4, 5, 6};
        for (int which = 0; which < 7; which++) {
            CHECKS.due("51 status(" + which + ")", x.status(which), due[which]);
        }
        CHECKS.due("51 all", x.status(-1), 24);
        x.image();
        x.undo();
        CHECKS.due("51 undo takes none back", x.status(-1), 24);
    }

    private static void findingsChangeNothing() {
        StarCrew x = sky();
        x.image();
        x.feed(32, 1);
        x.star(9, 9);
        x.change(0, 2, 100);
        x.crew(2, 0, 100);
        x.set(2, 100);
        x.go(61);
        x.drops(0);
        x.mends(0, 2);
        x.sign(4);
        x.hold(4, 2);
        x.feed(1, 5);
        x.sheet(0, 9, 9);
        x.undo();
        asKept(x);
        x.tear();
        x.star(-1, 9);
        x.go(0);
        x.drops(21);
        x.sign(0);
        x.hold(-1, 0);
        x.undo();
        asKept(x);
        CHECKS.due("51 all of these", x.status(-1), 17);
        CHECKS.due("37 nor THE TAPE", x.count(5), 1);
    }
}
