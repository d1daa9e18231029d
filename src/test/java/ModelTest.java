import java.lang.reflect.Method;
import java.util.ArrayList;
import java.util.Arrays;
import java.util.List;
import java.util.Random;

/** Long runs of drawn calls, each held against Model, and all that is left behind them; the draws have fixed seeds. */
final class ModelTest {
    private static final String[] WORDS = {"lamp", "red", "fixed", "pole", "guide", "old", "giant", "at", "life",
        "worth", "crew", "steps", "dust", "wishes", "mend", "parts", "sign", ";", "lamps", "a", "#", "\t", "A", "\u00e9"};

    public static void main(String[] args) {
        Checks checks = new Checks();
        int runs = args.length > 0 ? Integer.parseInt(args[0]) : 60;
        List<Method> acts = new ArrayList<>(Calls.ACTS.values());
        for (int run = 0; run < runs && checks.isClean(); run++) {
            oneRun(checks, acts, run);
        }
        checks.end();
    }

    private static void oneRun(Checks checks, List<Method> acts, int run) {
        Random draw = new Random(run);
        Caller x = new Calls();
        Model model = new Model();
        int wild = 5 + draw.nextInt(30);
        for (int call = 0; call < 512 && checks.isClean(); call++) {
            if (draw.nextInt(8) == 0) {
                call += feedText(checks, x, model, draw);
                continue;
            }
            Method act = acts.get(draw.nextInt(acts.size()));
            if (act.getName().equals("tear") && draw.nextInt(4) != 0) {
                continue;
            }
            int[] a = arguments(act, model, draw, wild);
            compare(checks, x, model, run, act.getName(), a);
        }
        checks.holds("run " + run + ": all is as the model's", Probe.of(x).equals(Probe.of(model)));
    }

    private static void compare(Checks checks, Caller x, Caller model, int run, String act, int... a) {
        checks.due("run " + run + ": " + act + Arrays.toString(a), x.call(act, a), model.call(act, a));
        for (int what = 0; what <= 7; what++) {
            checks.due("run " + run + ": count(" + what + ") behind " + act, x.call("count", what),
                model.call("count", what));
        }
    }

    private static int feedText(Checks checks, Caller x, Model model, Random draw) {
        String text = text(model, draw);
        for (int i = 0; i < text.length(); i++) {
            x.call("feed", text.charAt(i), 1);
            model.call("feed", text.charAt(i), 1);
        }
        checks.due("text() of <" + text + ">", x.call("text"), model.call("text"));
        for (int i = 0; i < 10; i++) {
            for (int what = 0; what < 7; what++) {
                checks.due("of(" + i + ", " + what + ")", x.call("of", i, what), model.call("of", i, what));
            }
            checks.due("signOf(" + i + ")", x.call("signOf", i), model.call("signOf", i));
        }
        return text.length() / 4;
    }

    private static String text(Model model, Random draw) {
        StringBuilder t = new StringBuilder();
        int items = 1 + draw.nextInt(4);
        for (int i = 0; i < items; i++) {
            if (i > 0) {
                t.append(draw.nextInt(3) == 0 ? " ; " : ";");
            }
            t.append(item(model, draw));
        }
        if (draw.nextInt(3) == 0) {
            int at = draw.nextInt(t.length());
            String put = draw.nextBoolean() ? WORDS[draw.nextInt(WORDS.length)] : " " + draw.nextInt(200) + " ";
            t.insert(at, put);
        }
        if (draw.nextInt(6) == 0) {
            t.setLength(draw.nextInt(t.length() + 1));
        }
        return t.toString();
    }

    private static String item(Model model, Random draw) {
        int kind = draw.nextInt(15);
        if (kind < 7) {
            return Model.KIND_WORDS[kind] + perhaps(" at ", 101, draw) + perhaps(" life ", 101, draw)
                + perhaps(" worth ", 101, draw);
        }
        if (kind < 9) {
            return "crew " + draw.nextInt(draw.nextInt(9) == 0 ? 6 : 4) + perhaps(" at", 101, draw)
                + perhaps(" steps ", 1010, draw);
        }
        if (kind < 13) {
            int most = Model.SET_MOST[kind - 9];
            return Model.SET_WORDS[kind - 9] + " " + draw.nextInt(most + 1 + (draw.nextInt(5) == 0 ? most : 0));
        }
        int sets = 1 << model.w.stars.size();
        return "sign " + draw.nextInt(sets + 2);
    }

    private static String perhaps(String words, int bound, Random draw) {
        return draw.nextBoolean() ? words + draw.nextInt(bound) : "";
    }

    private static int[] arguments(Method act, Model model, Random draw, int wild) {
        int[] a = new int[act.getParameterCount()];
        int[] most = ranges(act.getName(), model);
        for (int i = 0; i < a.length; i++) {
            int least = least(act.getName(), i);
            a[i] = least + draw.nextInt(Math.max(1, most[i] - least + 1));
            if (draw.nextInt(wild) == 0) {
                a[i] = wildNumber(draw, most[i]);
            }
        }
        if (act.getName().equals("sheet") && draw.nextInt(wild) != 0) {
            a[1] = new int[] {8, 8, 8, 16, 32, 0}[draw.nextInt(6)];
        }
        if (act.getName().equals("write")) {
            a[2] = written(model, draw);
        }
        if (act.getName().equals("seed")) {
            a[0] = draw.nextInt();
        }
        return a;
    }

    private static int written(Model model, Random draw) {
        switch (draw.nextInt(5)) {
            case 0: return draw.nextInt();
            case 1: return -1;
            case 2: return draw.nextInt(10);
            case 3: return draw.nextInt(101);
            default:
                if (model.w.stars.isEmpty()) {
                    return 0;
                }
                return model.w.later(draw.nextInt(3)).stars.get(draw.nextInt(model.w.stars.size())).life;
        }
    }

    private static int wildNumber(Random draw, int most) {
        int[] wild = {-1, -2, most + 1, most + 2, Integer.MIN_VALUE, Integer.MAX_VALUE, draw.nextInt(), 1 << 31 - 1, 1 << 10};
        return wild[draw.nextInt(wild.length)];
    }

    private static int least(String name, int i) {
        switch (name) {
            case "go": case "drops": case "dark": return 1;
            case "feed": return i == 1 ? 1 : 0;
            case "status": return -1;
            case "hold": return i == 1 ? -1 : 0;
            default: return 0;
        }
    }

    private static int[] ranges(String name, Model model) {
        int star = model.w.stars.size() - 1;
        int set = (1 << model.w.stars.size()) - 1;
        int sign = model.w.signs.size() - 1;
        switch (name) {
            case "star": return new int[] {6, 99};
            case "of": return new int[] {star, 6};
            case "change": return new int[] {star, 3, 99};
            case "crew": return new int[] {3, 1, 250};
            case "crewOf": return new int[] {3, 1};
            case "set": return new int[] {3, 12};
            case "apart": return new int[] {99, 99};
            case "go": return new int[] {6};
            case "drops": return new int[] {3};
            case "now": return new int[] {6};
            case "mends": return new int[] {3, star};
            case "ahead": case "dustFor": return new int[] {star, 30};
            case "lasts": case "kindFor": case "sees": return new int[] {star};
            case "shine": case "uses": return new int[] {40};
            case "dark": return new int[] {10};
            case "round": case "from": return new int[] {3, set};
            case "best": case "bestWorth": return new int[] {3};
            case "share": case "longer": return new int[] {3, 3, set};
            case "sign": case "may": return new int[] {set};
            case "signOf": case "tells": return new int[] {sign};
            case "steers": return new int[] {99};
            case "which": case "load": case "judge": return new int[] {3};
            case "kinds": return new int[] {3, star};
            case "odds": return new int[] {14, 1};
            case "seed": return new int[] {0};
            case "feed": return new int[] {0x7fffffff - 2, 4};
            case "hold": return new int[] {9, star};
            case "as": return new int[] {9, 6};
            case "sheet": return new int[] {3, 32, 6};
            case "write": return new int[] {3, 5, 0};
            case "copy": return new int[] {3, 4, 3, 4, 4};
            case "count": return new int[] {7};
            case "status": return new int[] {6};
            default: return new int[0];
        }
    }
}
