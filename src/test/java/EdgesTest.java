import java.io.IOException;
import java.nio.file.Files;
import java.nio.file.Path;
import java.util.ArrayList;
import java.util.Arrays;
import java.util.List;
import java.util.Set;
import java.util.TreeSet;

/**
 * The runs of ../edges.txt, one for each sentence of the document that names an edge. Behind each call it is also
 * looked whether a finding was counted, and whether a call that may change nothing changed nothing.
 */
final class EdgesTest {
    private static final Checks CHECKS = new Checks();
    private static final List<String> FINDINGS =
        List.of("BEYOND", "FULL", "KIND", "NONE", "STATE", "MISSING", "SIZE");
    private static final Set<String> ASKS = Set.of("of", "crewOf", "apart", "now", "ahead", "lasts", "shine", "dark",
        "kindFor", "dustFor", "uses", "round", "best", "bestWorth", "from", "share", "longer", "signOf", "may", "tells",
        "told", "steers", "sees", "which", "kinds", "odds", "as", "judge", "count", "status");
    private static final int PROMISES = 51;

    private record Step(String name, int[] a, Long due) {
        boolean isFinding() {
            return due != null && due < -1000000 && !tellsZ();
        }

        boolean tellsZ() {
            return name.equals("seed") || (name.equals("count") && a[0] == 6);
        }

        @Override
        public String toString() {
            return name + Arrays.toString(a);
        }
    }

    public static void main(String[] args) throws IOException {
        Path folder = Path.of(System.getProperty("starcrew.tests", "src/test"));
        String sentence = "";
        List<Step> run = new ArrayList<>();
        Set<Integer> promises = new TreeSet<>();
        for (String line : Files.readAllLines(folder.resolve("edges.txt"))) {
            if (line.startsWith("[")) {
                look(sentence, run);
                run.clear();
                sentence = line;
                String of = line.substring(1, line.indexOf(']'));
                if (of.matches("[0-9]+")) {
                    promises.add(Integer.parseInt(of));
                }
            } else if (!line.isBlank() && !line.startsWith("#")) {
                addSteps(run, line);
            }
        }
        look(sentence, run);
        CHECKS.due("promises with edges", promises.size(), PROMISES);
        CHECKS.end();
    }

    // ---- from lines to steps

    private static void addSteps(List<Step> run, String line) {
        int times = 1;
        String rest = line.strip();
        if (rest.matches("[0-9]+ x .*")) {
            times = Integer.parseInt(rest.substring(0, rest.indexOf(' ')));
            rest = rest.substring(rest.indexOf(" x ") + 3);
        }
        int mark = rest.lastIndexOf(" = ");
        Long due = mark < 0 ? null : due(rest.substring(mark + 3).strip());
        String call = mark < 0 ? rest : rest.substring(0, mark);
        for (int i = 0; i < times; i++) {
            addCall(run, call, due);
        }
    }

    private static void addCall(List<Step> run, String call, Long due) {
        String[] words = call.split("[ :]+");
        switch (words[0]) {
            case "tape" -> addTape(run, call);
            case "read" -> {
                run.add(new Step("wipe", new int[0], null));
                addTape(run, call);
                run.add(new Step("text", new int[0], due));
            }
            case "fill" -> addSheet(run, words);
            default -> run.add(new Step(words[0], numbers(words, 1), due));
        }
    }

    private static void addTape(List<Step> run, String call) {
        String text = call.substring(call.indexOf('"') + 1, call.lastIndexOf('"'));
        for (int i = 0; i < text.length(); i++) {
            int sign = text.charAt(i);
            if (sign == '\\') {
                sign = Integer.parseInt(text.substring(i + 1, i + 3), 16);
                i += 2;
            }
            run.add(new Step("feed", new int[] {sign, 1}, null));
        }
    }

    private static void addSheet(List<Step> run, String[] words) {
        int[] told = numbers(words, 1);
        run.add(new Step("sheet", new int[] {told[0], told[1], told.length - 2}, null));
        for (int i = 2; i < told.length; i++) {
            run.add(new Step("write", new int[] {told[0], i - 2, told[i]}, null));
        }
    }

    private static int[] numbers(String[] words, int first) {
        int[] found = new int[words.length - first];
        for (int i = 0; i < found.length; i++) {
            found[i] = (int) number(words[first + i]);
        }
        return found;
    }

    private static long due(String word) {
        if (word.startsWith("FAULT ")) {
            return -1 - number(word.substring(6));
        }
        int finding = FINDINGS.indexOf(word);
        return finding < 0 ? number(word) : -1000001 - finding;
    }

    private static long number(String word) {
        return switch (word) {
            case "MIN" -> Integer.MIN_VALUE;
            case "MAX" -> Integer.MAX_VALUE;
            default -> Long.parseLong(word);
        };
    }

    // ---- a run

    private static void look(String sentence, List<Step> run) {
        Caller x = new Calls();
        Caller model = new Model();
        for (int i = 0; i < run.size(); i++) {
            Step step = run.get(i);
            String call = sentence + ": " + step;
            long findings = x.call("status", -1);
            long got = x.call(step.name, step.a);
            CHECKS.due("the model on " + call, model.call(step.name, step.a), got);
            if (step.due != null) {
                CHECKS.due(call, got, step.due);
            } else {
                CHECKS.holds(call + " is no finding", got >= -1000000 || step.tellsZ());
            }
            CHECKS.due(call + ": findings counted", x.call("status", -1) - findings, step.isFinding() ? 1 : 0);
            if (step.isFinding() || ASKS.contains(step.name)) {
                changesNothing(call, run.subList(0, i), step);
            }
        }
    }

    /** Two objects, the one with the call and the other one without it, then answer alike whatever is asked. */
    private static void changesNothing(String call, List<Step> before, Step step) {
        Caller with = after(before);
        Caller without = after(before);
        with.call(step.name, step.a);
        for (int which = 0; which < FINDINGS.size(); which++) {
            int counted = step.isFinding() && step.due == -1000001 - which ? 1 : 0;
            CHECKS.due(call + ": status(" + which + ")", with.call("status", which) - without.call("status", which), counted);
        }
        CHECKS.holds(call + " changes nothing but status()", Probe.of(with).equals(Probe.of(without)));
    }

    private static Caller after(List<Step> steps) {
        Caller x = new Calls();
        for (Step step : steps) {
            x.call(step.name, step.a);
        }
        return x;
    }
}
