import java.math.BigInteger;
import java.util.ArrayList;
import java.util.Arrays;
import java.util.HashSet;
import java.util.List;
import java.util.Set;
import java.util.regex.Matcher;
import java.util.regex.Pattern;

/**
 * The document told a second time, as slowly and as near to its words as can be: kinds are classes,
 * rounds try every stretch of the ring, texts are cut into tokens first. StarCrew is held against it.
 */
final class Model implements Caller {
    static class Found extends RuntimeException {
        private static final long serialVersionUID = 1L;
        final int which;

        Found(int which) {
            super(null, null, false, false);
            this.which = which;
        }
    }

    abstract static class Kind {
        abstract int wear(int life, int dust, int wishes);

        abstract int dim(int wishes);
    }

    static class Lamp extends Kind {
        int wear(int life, int dust, int wishes) {
            return dust + 1;
        }

        int dim(int wishes) {
            return 9;
        }
    }

    static class Red extends Lamp {
        int wear(int life, int dust, int wishes) {
            return super.wear(life, dust, wishes) + 2;
        }

        int dim(int wishes) {
            return 19;
        }
    }

    static class Giant extends Red {
        int wear(int life, int dust, int wishes) {
            return 2 * super.wear(life, dust, wishes);
        }
    }

    static class Fixed extends Lamp {
        int wear(int life, int dust, int wishes) {
            return super.wear(life, dust, wishes) / 2;
        }

        int dim(int wishes) {
            return super.dim(wishes) / 2;
        }
    }

    static class Pole extends Fixed {
        int wear(int life, int dust, int wishes) {
            return super.wear(life, dust, wishes) + (wishes >= 5 ? 1 : 0);
        }

        int dim(int wishes) {
            return 0;
        }
    }

    static class Guide extends Pole {
        int wear(int life, int dust, int wishes) {
            return super.wear(life, dust, wishes) + wishes;
        }
    }

    static class Old extends Lamp {
        int wear(int life, int dust, int wishes) {
            return super.wear(life, dust, wishes) + (99 - life) / 10;
        }

        int dim(int wishes) {
            return super.dim(wishes) + wishes;
        }
    }

    static final Kind[] KINDS = {
        new Lamp(), new Red(), new Fixed(), new Pole(), new Guide(), new Old(), new Giant()};
    static final String[] KIND_WORDS = {"lamp", "red", "fixed", "pole", "guide", "old", "giant"};
    static final String[] SET_WORDS = {"dust", "wishes", "mend", "parts"};
    static final int[] SET_MOST = {9, 9, 99, 9999};

    static class Star {
        int kind;
        int at;
        int life = 50;
        int worth = 1;

        Star twin() {
            Star s = new Star();
            s.kind = kind;
            s.at = at;
            s.life = life;
            s.worth = worth;
            return s;
        }
    }

    static class World {
        List<Star> stars = new ArrayList<>();
        int[][] crews = {{0, 60}, {0, 60}, {0, 60}, {0, 60}};
        int[] set = {1, 0, 5, 20};
        int night = 0;
        int z = 1;
        List<Integer> signs = new ArrayList<>();
        Integer[] spots = new Integer[10];

        World twin() {
            World w = new World();
            for (Star s : stars) {
                w.stars.add(s.twin());
            }
            for (int c = 0; c < 4; c++) {
                w.crews[c] = crews[c].clone();
            }
            w.set = set.clone();
            w.night = night;
            w.z = z;
            w.signs.addAll(signs);
            w.spots = spots.clone();
            return w;
        }

        boolean shines(Star s) {
            return s.life > KINDS[s.kind].dim(set[1]);
        }

        int wear(Star s) {
            return KINDS[s.kind].wear(s.life, set[0], set[1]);
        }

        void night() {
            for (Star s : stars) {
                s.life = Math.max(0, s.life - wear(s));
            }
            night++;
        }

        World later(int n) {
            World w = twin();
            for (int i = 0; i < n; i++) {
                w.night();
            }
            return w;
        }

        Set<Integer> shining() {
            Set<Integer> found = new HashSet<>();
            for (int i = 0; i < stars.size(); i++) {
                if (shines(stars.get(i))) {
                    found.add(i);
                }
            }
            return found;
        }

        int roundFrom(int place, int set) {
            int best = Integer.MAX_VALUE;
            for (int right = 0; right < 100; right++) {
                for (int left = 0; left + right < 100; left++) {
                    int cost = left + right + Math.min(left, right);
                    if (cost < best && covers(place, left, right, set)) {
                        best = cost;
                    }
                }
            }
            return best + this.set[2] * Integer.bitCount(set);
        }

        boolean covers(int place, int left, int right, int set) {
            for (int i = 0; i < stars.size(); i++) {
                if ((set >> i & 1) == 1) {
                    int on = Math.floorMod(stars.get(i).at - place, 100);
                    int back = Math.floorMod(place - stars.get(i).at, 100);
                    if (on > right && back > left) {
                        return false;
                    }
                }
            }
            return true;
        }
    }

    World w = new World();
    World kept = null;
    List<Integer> tape = new ArrayList<>();
    int[] bits = new int[4];
    int[][] sheets = new int[4][0];
    int[] status = new int[7];

    static void need(boolean so, int which) {
        if (!so) {
            throw new Found(which);
        }
    }

    static boolean in(int v, int least, int most) {
        return v >= least && v <= most;
    }

    static int bitsOf(Set<Integer> set) {
        int b = 0;
        for (int i : set) {
            b |= 1 << i;
        }
        return b;
    }

    static int apart(int a, int b) {
        int steps = 0;
        while ((a + steps) % 100 != b && (a + 100 - steps) % 100 != b) {
            steps++;
        }
        return steps;
    }

    Star starAt(int star) {
        need(in(star, 0, w.stars.size() - 1), 0);
        return w.stars.get(star);
    }

    void needStars(int stars) {
        need(stars >= 0 && stars < 1 << w.stars.size(), 0);
    }

    void needCrew(int crew) {
        need(in(crew, 0, 3), 0);
    }

    void needSheet(int s) {
        need(in(s, 0, 3), 0);
        need(bits[s] != 0, 5);
    }

    /** Calls the act by its name; a finding is counted. */
    @Override
    public long call(String name, int... a) {
        try {
            return act(name, a);
        } catch (Found f) {
            status[f.which]++;
            return -1000001 - f.which;
        }
    }

    long act(String name, int[] a) {
        switch (name) {
            case "star": return star(a[0], a[1]);
            case "of": return of(a[0], a[1]);
            case "change": return change(a[0], a[1], a[2]);
            case "crew": return crew(a[0], a[1], a[2]);
            case "crewOf": needCrew(a[0]); need(in(a[1], 0, 1), 0); return w.crews[a[0]][a[1]];
            case "set": return set(a[0], a[1]);
            case "apart": need(in(a[0], 0, 99) && in(a[1], 0, 99), 0); return apart(a[0], a[1]);
            case "go": return go(a[0]);
            case "now": return now(a[0]);
            case "mends": return mends(a[0], a[1]);
            case "ahead": starAt(a[0]); need(in(a[1], 0, 200), 0); return w.later(a[1]).stars.get(a[0]).life;
            case "lasts": return lasts(a[0]);
            case "shine": need(in(a[0], 0, 200), 0); return bitsOf(w.later(a[0]).shining());
            case "dark": return dark(a[0]);
            case "kindFor": return kindFor(a[0]);
            case "dustFor": return dustFor(a[0], a[1]);
            case "uses": return uses(a[0]);
            case "round": needCrew(a[0]); needStars(a[1]); return w.roundFrom(w.crews[a[0]][0], a[1]);
            case "best": return best(a[0])[0];
            case "bestWorth": return best(a[0])[1];
            case "from": return from(a[0], a[1]);
            case "share": return share(a[0], a[1], a[2])[0];
            case "longer": return share(a[0], a[1], a[2])[1];
            case "sign": return sign(a[0]);
            case "signOf": need(in(a[0], 0, w.signs.size() - 1), 0); return w.signs.get(a[0]);
            case "may": needStars(a[0]); return bitsOf(may(a[0]));
            case "tells": return tells(a[0]);
            case "told": return told();
            case "steers": return steers(a[0]);
            case "sees": return sees(a[0]);
            case "which": return which(a[0]);
            case "kinds": return kinds(a[0], a[1]);
            case "drops": return drops(a[0]);
            case "odds": return odds(a[0], a[1]);
            case "seed": { int was = w.z; w.z = a[0]; return was; }
            case "feed": return feed(a[0], a[1]);
            case "wipe": { int had = tape.size(); tape.clear(); return had; }
            case "text": return text();
            default: return actOfSheets(name, a);
        }
    }

    long actOfSheets(String name, int[] a) {
        switch (name) {
            case "hold": return hold(a[0], a[1]);
            case "as": return as(a[0], a[1]);
            case "sheet": return sheet(a[0], a[1], a[2]);
            case "write": return write(a[0], a[1], a[2]);
            case "copy": return copy(a[0], a[1], a[2], a[3], a[4]);
            case "load": return load(a[0]);
            case "judge": return judge(a[0]);
            case "image": kept = w.twin(); return 1;
            case "undo": need(kept != null, 3); w = kept.twin(); return w.night;
            case "tear": { int was = kept == null ? 0 : 1; kept = null; return was; }
            case "count": return count(a[0]);
            case "status":
                if (a[0] == -1) {
                    return Arrays.stream(status).sum();
                }
                need(in(a[0], 0, 6), 0);
                return status[a[0]];
            default: throw new IllegalArgumentException(name);
        }
    }

    int star(int kind, int place) {
        need(in(kind, 0, 6) && in(place, 0, 99), 0);
        need(w.stars.size() < 10, 1);
        Star s = new Star();
        s.kind = kind;
        s.at = place;
        w.stars.add(s);
        return w.stars.size() - 1;
    }

    int of(int star, int what) {
        Star s = starAt(star);
        need(in(what, 0, 6), 0);
        return new int[] {s.kind, s.at, s.life, s.worth, w.wear(s), KINDS[s.kind].dim(w.set[1]),
            w.shines(s) ? 1 : 0}[what];
    }

    int change(int star, int what, int v) {
        int was = of(star, what);
        need(in(what, 0, 3) && in(v, 0, what == 0 ? 6 : 99), 0);
        Star s = starAt(star);
        if (what == 0) {
            s.kind = v;
        } else if (what == 1) {
            s.at = v;
        } else if (what == 2) {
            s.life = v;
        } else {
            s.worth = v;
        }
        return was;
    }

    int crew(int crew, int what, int v) {
        needCrew(crew);
        need(in(what, 0, 1) && in(v, 0, what == 0 ? 99 : 999), 0);
        int was = w.crews[crew][what];
        w.crews[crew][what] = v;
        return was;
    }

    int set(int what, int v) {
        need(in(what, 0, 3) && in(v, 0, SET_MOST[what]), 0);
        int was = w.set[what];
        w.set[what] = v;
        return was;
    }

    int go(int n) {
        need(in(n, 1, 60), 0);
        need(w.night + n <= 99999, 4);
        w = w.later(n);
        return w.shining().size();
    }

    int now(int what) {
        need(in(what, 0, 6), 0);
        int life = w.stars.stream().mapToInt(s -> s.life).sum();
        int worth = w.stars.stream().filter(w::shines).mapToInt(s -> s.worth).sum();
        return new int[] {w.night, bitsOf(w.shining()), life, worth, w.set[3], w.set[0], w.set[1]}[what];
    }

    int mends(int crew, int star) {
        needCrew(crew);
        Star s = starAt(star);
        need(w.set[3] > 0, 4);
        w.set[3]--;
        s.life = 99;
        int was = w.crews[crew][0];
        w.crews[crew][0] = s.at;
        return apart(was, s.at);
    }

    int nightsOf(int star, int kind) {
        World v = w.twin();
        v.stars.get(star).kind = kind;
        for (int n = 0; n <= 200; n++) {
            if (!v.shining().contains(star)) {
                return n;
            }
            v.night();
        }
        return -1;
    }

    int lasts(int star) {
        int n = nightsOf(star, starAt(star).kind);
        need(n >= 0, 3);
        return n;
    }

    int dark(int k) {
        need(in(k, 1, 10), 0);
        World v = w.twin();
        for (int n = 0; n <= 200; n++) {
            if (v.shining().size() < k) {
                return n;
            }
            v.night();
        }
        throw new Found(3);
    }

    int kindFor(int star) {
        starAt(star);
        int found = -1;
        int longest = -1;
        for (int kind = 0; kind < 7; kind++) {
            int n = nightsOf(star, kind);
            n = n < 0 ? 200 : n;
            if (n > longest) {
                longest = n;
                found = kind;
            }
        }
        return found;
    }

    int dustFor(int star, int n) {
        starAt(star);
        need(in(n, 0, 200), 0);
        int found = -1;
        for (int dust = 0; dust <= 9; dust++) {
            World v = w.twin();
            v.set[0] = dust;
            if (v.later(n).shining().contains(star)) {
                found = dust;
            }
        }
        need(found >= 0, 3);
        return found;
    }

    int uses(int n) {
        need(in(n, 0, 200), 0);
        World v = w.twin();
        int used = 0;
        for (int i = 0; i < n; i++) {
            for (Star s : v.stars) {
                if (!v.shines(s)) {
                    s.life = 99;
                    used++;
                }
            }
            v.night();
        }
        return used;
    }

    int[] best(int crew) {
        needCrew(crew);
        int found = 0;
        int most = 0;
        for (int set = 0; set < 1 << w.stars.size(); set++) {
            int worth = 0;
            for (int i = 0; i < w.stars.size(); i++) {
                worth += (set >> i & 1) * w.stars.get(i).worth;
            }
            boolean may = Integer.bitCount(set) <= w.set[3]
                && w.roundFrom(w.crews[crew][0], set) <= w.crews[crew][1];
            if (may && worth > most) {
                most = worth;
                found = set;
            }
        }
        return new int[] {found, most};
    }

    int from(int crew, int stars) {
        needCrew(crew);
        needStars(stars);
        int found = 0;
        for (int place = 1; place < 100; place++) {
            if (w.roundFrom(place, stars) < w.roundFrom(found, stars)) {
                found = place;
            }
        }
        return found;
    }

    int[] share(int a, int b, int stars) {
        needCrew(a);
        needCrew(b);
        need(a != b, 0);
        needStars(stars);
        int found = -1;
        int fewest = Integer.MAX_VALUE;
        for (int part = 0; part <= stars; part++) {
            if ((part | stars) == stars) {
                int steps = Math.max(w.roundFrom(w.crews[a][0], part), w.roundFrom(w.crews[b][0], stars - part));
                if (steps < fewest) {
                    fewest = steps;
                    found = part;
                }
            }
        }
        return new int[] {found, fewest};
    }

    int sign(int stars) {
        needStars(stars);
        need(stars != 0, 0);
        need(w.signs.size() < 6, 1);
        w.signs.add(stars);
        return w.signs.size() - 1;
    }

    Set<Integer> may(int stars) {
        Set<Integer> found = new HashSet<>();
        for (int c = 0; c < w.signs.size(); c++) {
            if ((stars | w.signs.get(c)) == w.signs.get(c)) {
                found.add(c);
            }
        }
        return found;
    }

    int tells(int sign) {
        need(in(sign, 0, w.signs.size() - 1), 0);
        for (int size = 0; size <= 10; size++) {
            for (int set = 0; set < 1024; set++) {
                if (Integer.bitCount(set) == size && may(set).equals(Set.of(sign))) {
                    return set;
                }
            }
        }
        throw new Found(3);
    }

    int told() {
        Set<Integer> found = new HashSet<>();
        for (int c = 0; c < w.signs.size(); c++) {
            if (may(w.signs.get(c) & bitsOf(w.shining())).equals(Set.of(c))) {
                found.add(c);
            }
        }
        return bitsOf(found);
    }

    int steers(int place) {
        need(in(place, 0, 99), 0);
        need(!w.shining().isEmpty(), 3);
        for (int far = 0; far <= 50; far++) {
            for (int i = 0; i < w.stars.size(); i++) {
                if (w.shines(w.stars.get(i)) && apart(place, w.stars.get(i).at) == far) {
                    return i;
                }
            }
        }
        throw new IllegalStateException();
    }

    int sees(int star) {
        starAt(star);
        int places = 0;
        for (int p = 0; p < 100 && !w.shining().isEmpty(); p++) {
            places += steers(p) == star ? 1 : 0;
        }
        return places;
    }

    boolean fits(int s, World v, int star) {
        for (int i = 0; i < sheets[s].length; i++) {
            if (sheets[s][i] != -1 && sheets[s][i] != v.later(i).stars.get(star).life) {
                return false;
            }
        }
        return true;
    }

    int which(int s) {
        needSheet(s);
        int found = 0;
        for (int i = 0; i < w.stars.size(); i++) {
            found |= fits(s, w, i) ? 1 << i : 0;
        }
        return found;
    }

    int kinds(int s, int star) {
        needSheet(s);
        starAt(star);
        int found = 0;
        for (int kind = 0; kind < 7; kind++) {
            World v = w.twin();
            v.stars.get(star).kind = kind;
            found += fits(s, v, star) ? 1 : 0;
        }
        return found;
    }

    int drops(int n) {
        need(in(n, 1, 20), 0);
        need(w.night + n <= 99999, 4);
        int hits = 0;
        for (int i = 0; i < n; i++) {
            BigInteger z = BigInteger.valueOf(w.z).multiply(BigInteger.valueOf(1103515245L)).add(BigInteger.valueOf(12345));
            w.z = z.intValue();
            int number = (int) ((w.z & 0xffffffffL) / 256 % 16);
            if (number < w.stars.size()) {
                w.stars.get(number).life = 0;
                hits++;
            }
            w.night();
        }
        return hits;
    }

    long odds(int n, int what) {
        need(in(n, 0, 14) && in(what, 0, 1), 0);
        BigInteger above = BigInteger.valueOf(16 - w.stars.size()).pow(n);
        BigInteger below = BigInteger.valueOf(16).pow(n);
        BigInteger shared = above.gcd(below);
        return (what == 0 ? above : below).divide(shared).longValueExact();
    }

    int feed(int bytes, int n) {
        need(in(n, 1, 4), 0);
        need(tape.size() + n <= 120, 1);
        for (int i = 0; i < n; i++) {
            tape.add(bytes >>> 8 * (n - 1 - i) & 255);
        }
        return tape.size();
    }

    // ---- texts: tokens first, each with its place

    private final List<String> tokens = new ArrayList<>();
    private final List<Integer> places = new ArrayList<>();
    private int next;

    int text() {
        StringBuilder all = new StringBuilder();
        for (int b : tape) {
            all.append((char) b);
        }
        tokens.clear();
        places.clear();
        Matcher m = Pattern.compile("[a-z]+|[0-9]+|[^ ]", Pattern.DOTALL).matcher(all);
        while (m.find()) {
            tokens.add(m.group());
            places.add(m.start());
        }
        tokens.add("");
        places.add(tape.size());
        tape.clear();
        next = 0;
        World v = w.twin();
        int items = 0;
        do {
            if (!item(v)) {
                return -1 - places.get(next);
            }
            items++;
        } while (took(";"));
        if (!tokens.get(next).isEmpty()) {
            return -1 - places.get(next);
        }
        w = v;
        return items;
    }

    private boolean took(String token) {
        if (!tokens.get(next).equals(token)) {
            return false;
        }
        next++;
        return true;
    }

    private int number(int least, int most) {
        String t = tokens.get(next);
        if (!t.matches("[0-9]+")) {
            return -1;
        }
        BigInteger v = new BigInteger(t);
        if (v.compareTo(BigInteger.valueOf(least)) < 0 || v.compareTo(BigInteger.valueOf(most)) > 0) {
            return -1;
        }
        next++;
        return v.intValue();
    }

    private boolean item(World v) {
        int kind = Arrays.asList(KIND_WORDS).indexOf(tokens.get(next));
        if (kind >= 0) {
            return starItem(v, kind);
        }
        int what = Arrays.asList(SET_WORDS).indexOf(tokens.get(next));
        if (what >= 0) {
            next++;
            int n = number(0, SET_MOST[what]);
            v.set[what] = n;
            return n >= 0;
        }
        if (tokens.get(next).equals("sign") && v.signs.size() < 6) {
            next++;
            int n = number(1, (1 << v.stars.size()) - 1);
            v.signs.add(n);
            return n >= 0;
        }
        return took("crew") && crewItem(v);
    }

    private boolean starItem(World v, int kind) {
        if (v.stars.size() == 10) {
            return false;
        }
        next++;
        Star s = new Star();
        s.kind = kind;
        if (took("at")) {
            s.at = number(0, 99);
        }
        if (s.at >= 0 && took("life")) {
            s.life = number(0, 99);
        }
        if (s.at >= 0 && s.life >= 0 && took("worth")) {
            s.worth = number(0, 99);
        }
        v.stars.add(s);
        return s.at >= 0 && s.life >= 0 && s.worth >= 0;
    }

    private boolean crewItem(World v) {
        int crew = number(0, 3);
        if (crew < 0) {
            return false;
        }
        if (took("at")) {
            v.crews[crew][0] = number(0, 99);
        }
        if (v.crews[crew][0] >= 0 && took("steps")) {
            v.crews[crew][1] = number(0, 999);
        }
        return v.crews[crew][0] >= 0 && v.crews[crew][1] >= 0;
    }

    // ---- spots, sheets

    int hold(int spot, int star) {
        need(in(spot, 0, 9), 0);
        if (star != -1) {
            starAt(star);
        }
        w.spots[spot] = star == -1 ? null : star;
        return 1;
    }

    int as(int spot, int kind) {
        need(in(spot, 0, 9) && in(kind, 0, 6), 0);
        need(w.spots[spot] != null, 5);
        Kind own = KINDS[w.stars.get(w.spots[spot]).kind];
        need(KINDS[kind].getClass().isInstance(own), 2);
        return w.spots[spot];
    }

    int sheet(int s, int b, int n) {
        need(in(s, 0, 3) && (b == 0 || b == 8 || b == 16 || b == 32), 0);
        need(n >= 0, 6);
        need(n <= 40, 0);
        bits[s] = b;
        sheets[s] = new int[b == 0 ? 0 : n];
        return sheets[s].length;
    }

    int write(int s, int i, int v) {
        needSheet(s);
        need(in(i, 0, sheets[s].length - 1), 0);
        sheets[s][i] = v << 32 - bits[s] >> 32 - bits[s];
        return 1;
    }

    int copy(int s, int from, int t, int to, int n) {
        need(in(s, 0, 3) && in(t, 0, 3), 0);
        need(bits[s] != 0 && bits[t] != 0, 5);
        need(bits[s] == bits[t], 2);
        need(from >= 0 && to >= 0 && n >= 0, 0);
        need((long) from + n <= sheets[s].length && (long) to + n <= sheets[t].length, 0);
        int[] as = sheets[s].clone();
        for (int i = 0; i < n; i++) {
            sheets[t][to + i] = as[from + i];
        }
        return n;
    }

    int load(int s) {
        needSheet(s);
        for (int i = 0; i < sheets[s].length; i++) {
            if (!in(sheets[s][i], 0, 99) || i >= w.stars.size()) {
                return i;
            }
            w.stars.get(i).life = sheets[s][i];
        }
        return sheets[s].length;
    }

    int judge(int s) {
        needSheet(s);
        Set<Integer> seen = new HashSet<>();
        int at = w.crews[0][0];
        int steps = 0;
        for (int i = 0; i < sheets[s].length; i++) {
            int star = sheets[s][i];
            if (!in(star, 0, w.stars.size() - 1) || !seen.add(star)) {
                return i + 1;
            }
            steps += apart(at, w.stars.get(star).at) + w.set[2];
            at = w.stars.get(star).at;
            if (steps > w.crews[0][1]) {
                return i + 1;
            }
        }
        return 0;
    }

    int count(int what) {
        need(in(what, 0, 7), 0);
        int held = 0;
        for (Integer s : w.spots) {
            held += s == null ? 0 : 1;
        }
        return new int[] {w.night, w.stars.size(), w.shining().size(), w.signs.size(), now(2), tape.size(), w.z, held}[what];
    }
}
