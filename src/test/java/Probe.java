/** All that can be learnt of an object by asking it; the object is used up by that. */
final class Probe {
    private final Caller x;
    private final StringBuilder seen = new StringBuilder();

    private Probe(Caller x) {
        this.x = x;
    }

    static String of(Caller x) {
        Probe probe = new Probe(x);
        probe.state();
        probe.sheets();
        probe.ask("text");
        probe.state();
        probe.ask("undo");
        probe.state();
        return probe.seen.toString();
    }

    private long ask(String name, int... a) {
        long answer = x.call(name, a);
        seen.append(name).append(java.util.Arrays.toString(a)).append(' ').append(answer).append('\n');
        return answer;
    }

    private void state() {
        for (int what = 0; what < 8; what++) {
            ask("count", what);
        }
        for (int what = 0; what < 7; what++) {
            ask("now", what);
        }
        for (int star = 0; star < x.call("count", 1); star++) {
            for (int what = 0; what < 7; what++) {
                ask("of", star, what);
            }
        }
        for (int i = 0; i < 8; i++) {
            ask("crewOf", i / 2, i % 2);
        }
        for (int sign = 0; sign < x.call("count", 3); sign++) {
            ask("signOf", sign);
        }
        for (int spot = 0; spot < 10; spot++) {
            ask("as", spot, 0);
        }
        x.call("set", 2, (int) ask("set", 2, 0));
    }

    /** Their numbers become LIFE, for nothing tells them otherwise. */
    private void sheets() {
        while (x.call("star", 0, 0) >= 0) {
            continue;
        }
        for (int s = 0; s < 4; s++) {
            ask("which", s);
            ask("judge", s);
            for (int t = 0; t < 4; t++) {
                ask("copy", s, 0, t, 0, 0);
            }
            for (int i = 0; i <= 40; i++) {
                ask("copy", s, i, s, i, 1);
            }
            ask("load", s);
            for (int star = 0; star < 10; star++) {
                ask("of", star, 2);
            }
        }
    }
}
