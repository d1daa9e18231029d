import java.util.Arrays;

/** The crews that mend a sky; ../shared/DOC.md numbers the promises that each act keeps. */
public final class StarCrew {
    private static final int LOW = -1000001;
    private static final int BEYOND = 0;
    private static final int FULL = 1;
    private static final int KIND = 2;
    private static final int NONE = 3;
    private static final int STATE = 4;
    private static final int MISSING = 5;
    private static final int SIZE = 6;
    private static final int FINDINGS = 7;

    private static final int LAMP = 0;
    private static final int RED = 1;
    private static final int FIXED = 2;
    private static final int POLE = 3;
    private static final int GUIDE = 4;
    private static final int OLD = 5;
    private static final int GIANT = 6;
    private static final int KINDS = 7;

    private static final int PLACES = 100;
    private static final int STARS = 10;
    private static final int CREWS = 4;
    private static final int SIGNS = 6;
    private static final int SPOTS = 10;
    private static final int SHEETS = 4;
    private static final int NUMBERS = 40;
    private static final int TAPE = 120;

    private static final int MOST_LIFE = 99;
    private static final int MOST_WORTH = 99;
    private static final int FIRST_LIFE = 50;
    private static final int FIRST_WORTH = 1;
    private static final int MOST_STEPS = 999;
    private static final int FIRST_STEPS = 60;
    private static final int MOST_NIGHT = 99999;
    private static final int MOST_GO = 60;
    private static final int MOST_DROPS = 20;
    private static final int MOST_AHEAD = 200;
    private static final int MOST_TOOLS = 14;
    private static final int TOOL_NUMBERS = 16;

    private static final int DUST = 0;
    private static final int WISHES = 1;
    private static final int MEND = 2;
    private static final int PARTS = 3;
    private static final int[] MOST_SETTING = {9, 9, 99, 9999};
    private static final int SETTINGS = 4;

    /** More steps than any round can take. */
    private static final int FAR = 1000000;

    private final Sky sky = new Sky();
    private final Sky kept = new Sky();
    private final Sky draft = new Sky();
    private boolean isKept = false;
    private final TextReader reader = new TextReader();
    private final Sheet[] sheets = new Sheet[SHEETS];
    private final Walker walker = new Walker();
    private final Walker secondWalker = new Walker();
    private final int[] lives = new int[STARS];
    private final int[] findings = new int[FINDINGS];

    public StarCrew() {
        for (int s = 0; s < SHEETS; s++) {
            sheets[s] = new Sheet();
        }
    }

    // ---- stars, crews, what is set

    public int star(int kind, int place) {
        if (!isBelow(kind, KINDS) || !isBelow(place, PLACES)) {
            return finding(BEYOND);
        }
        if (sky.stars >= STARS) {
            return finding(FULL);
        }
        return sky.addStar(kind, place, FIRST_LIFE, FIRST_WORTH);
    }

    public int of(int star, int what) {
        if (!isBelow(star, sky.stars)) {
            return finding(BEYOND);
        }
        int[] row = sky.starRow(what);
        if (row != null) {
            return row[star];
        }
        switch (what) {
            case 4:
                return sky.wearOf(sky.kind[star], sky.life[star], sky.settings[DUST]);
            case 5:
                return sky.dimOf(sky.kind[star]);
            case 6:
                return sky.isBright(sky.kind[star], sky.life[star]) ? 1 : 0;
            default:
                return finding(BEYOND);
        }
    }

    public int change(int star, int what, int v) {
        int[] row = sky.starRow(what);
        if (row == null || !isBelow(star, sky.stars) || !isWithin(v, Sky.mostOfStar(what))) {
            return finding(BEYOND);
        }
        return replaced(row, star, v);
    }

    public int crew(int crew, int what, int v) {
        int[] row = sky.crewRow(what);
        if (row == null || !isBelow(crew, CREWS) || !isWithin(v, Sky.mostOfCrew(what))) {
            return finding(BEYOND);
        }
        return replaced(row, crew, v);
    }

    public int crewOf(int crew, int what) {
        int[] row = sky.crewRow(what);
        if (row == null || !isBelow(crew, CREWS)) {
            return finding(BEYOND);
        }
        return row[crew];
    }

    public int set(int what, int v) {
        if (!isBelow(what, SETTINGS) || !isWithin(v, MOST_SETTING[what])) {
            return finding(BEYOND);
        }
        return replaced(sky.settings, what, v);
    }

    public int apart(int a, int b) {
        if (!isBelow(a, PLACES) || !isBelow(b, PLACES)) {
            return finding(BEYOND);
        }
        return stepsBetween(a, b);
    }

    // ---- nights

    public int go(int n) {
        if (n < 1 || n > MOST_GO) {
            return finding(BEYOND);
        }
        if (sky.night + n > MOST_NIGHT) {
            return finding(STATE);
        }
        for (int i = 0; i < n; i++) {
            sky.passNight();
        }
        return Integer.bitCount(sky.brightSet(sky.life));
    }

    public int now(int what) {
        switch (what) {
            case 0:
                return sky.night;
            case 1:
                return sky.brightSet(sky.life);
            case 2:
                return sky.lifeTogether();
            case 3:
                return sky.worthOf(sky.brightSet(sky.life));
            case 4:
                return sky.settings[PARTS];
            case 5:
                return sky.settings[DUST];
            case 6:
                return sky.settings[WISHES];
            default:
                return finding(BEYOND);
        }
    }

    public int mends(int crew, int star) {
        if (!isBelow(crew, CREWS) || !isBelow(star, sky.stars)) {
            return finding(BEYOND);
        }
        if (sky.settings[PARTS] < 1) {
            return finding(STATE);
        }
        sky.settings[PARTS]--;
        sky.life[star] = MOST_LIFE;
        int cameFrom = replaced(sky.crewPlace, crew, sky.place[star]);
        return stepsBetween(cameFrom, sky.place[star]);
    }

    // ---- what will be (nothing changes)

    public int ahead(int star, int n) {
        if (!isBelow(star, sky.stars) || !isWithin(n, MOST_AHEAD)) {
            return finding(BEYOND);
        }
        return sky.lifeBehind(star, sky.settings[DUST], n);
    }

    public int lasts(int star) {
        if (!isBelow(star, sky.stars)) {
            return finding(BEYOND);
        }
        int nights = sky.nightsBright(star, sky.kind[star]);
        return nights > MOST_AHEAD ? finding(NONE) : nights;
    }

    public int shine(int n) {
        if (!isWithin(n, MOST_AHEAD)) {
            return finding(BEYOND);
        }
        copyLives();
        for (int i = 0; i < n; i++) {
            sky.wearDown(lives);
        }
        return sky.brightSet(lives);
    }

    public int dark(int k) {
        if (k < 1 || k > STARS) {
            return finding(BEYOND);
        }
        copyLives();
        for (int nights = 0; nights <= MOST_AHEAD; nights++) {
            if (Integer.bitCount(sky.brightSet(lives)) < k) {
                return nights;
            }
            sky.wearDown(lives);
        }
        return finding(NONE);
    }

    public int kindFor(int star) {
        if (!isBelow(star, sky.stars)) {
            return finding(BEYOND);
        }
        int longest = -1;
        int found = LAMP;
        for (int kind = 0; kind < KINDS; kind++) {
            int nights = Math.min(MOST_AHEAD, sky.nightsBright(star, kind));
            if (nights > longest) {
                longest = nights;
                found = kind;
            }
        }
        return found;
    }

    public int dustFor(int star, int n) {
        if (!isBelow(star, sky.stars) || !isWithin(n, MOST_AHEAD)) {
            return finding(BEYOND);
        }
        for (int dust = MOST_SETTING[DUST]; dust >= 0; dust--) {
            if (sky.isBright(sky.kind[star], sky.lifeBehind(star, dust, n))) {
                return dust;
            }
        }
        return finding(NONE);
    }

    public int uses(int n) {
        if (!isWithin(n, MOST_AHEAD)) {
            return finding(BEYOND);
        }
        copyLives();
        int used = 0;
        for (int i = 0; i < n; i++) {
            used += sky.mendDark(lives);
            sky.wearDown(lives);
        }
        return used;
    }

    // ---- rounds

    public int round(int crew, int stars) {
        if (!isBelow(crew, CREWS) || !isSetOfStars(stars)) {
            return finding(BEYOND);
        }
        walker.standAt(sky, sky.crewPlace[crew]);
        return walker.stepsBy(stars);
    }

    public int best(int crew) {
        if (!isBelow(crew, CREWS)) {
            return finding(BEYOND);
        }
        return bestSet(crew);
    }

    public int bestWorth(int crew) {
        if (!isBelow(crew, CREWS)) {
            return finding(BEYOND);
        }
        return sky.worthOf(bestSet(crew));
    }

    public int from(int crew, int stars) {
        if (!isBelow(crew, CREWS) || !isSetOfStars(stars)) {
            return finding(BEYOND);
        }
        int fewest = FAR;
        int found = 0;
        for (int place = 0; place < PLACES; place++) {
            walker.standAt(sky, place);
            int steps = walker.stepsBy(stars);
            if (steps < fewest) {
                fewest = steps;
                found = place;
            }
        }
        return found;
    }

    public int share(int a, int b, int stars) {
        if (!canShare(a, b, stars)) {
            return finding(BEYOND);
        }
        return firstShare(a, b, stars);
    }

    public int longer(int a, int b, int stars) {
        if (!canShare(a, b, stars)) {
            return finding(BEYOND);
        }
        return longerWay(firstShare(a, b, stars), stars);
    }

    // ---- constellations, ships

    public int sign(int stars) {
        if (stars == 0 || !isSetOfStars(stars)) {
            return finding(BEYOND);
        }
        if (sky.signs >= SIGNS) {
            return finding(FULL);
        }
        return sky.addSign(stars);
    }

    public int signOf(int sign) {
        if (!isBelow(sign, sky.signs)) {
            return finding(BEYOND);
        }
        return sky.signStars[sign];
    }

    public int may(int stars) {
        if (!isSetOfStars(stars)) {
            return finding(BEYOND);
        }
        return sky.signsWith(stars);
    }

    public int tells(int sign) {
        if (!isBelow(sign, sky.signs)) {
            return finding(BEYOND);
        }
        int all = sky.signStars[sign];
        int fewest = STARS + 1;
        int found = 0;
        for (int part = 0; part <= all; part++) {
            boolean isPart = (part & ~all) == 0;
            if (isPart && Integer.bitCount(part) < fewest && sky.signsWith(part) == 1 << sign) {
                fewest = Integer.bitCount(part);
                found = part;
            }
        }
        return fewest > STARS ? finding(NONE) : found;
    }

    public int told() {
        int bright = sky.brightSet(sky.life);
        int found = 0;
        for (int sign = 0; sign < sky.signs; sign++) {
            if (sky.signsWith(sky.signStars[sign] & bright) == 1 << sign) {
                found |= 1 << sign;
            }
        }
        return found;
    }

    public int steers(int place) {
        if (!isBelow(place, PLACES)) {
            return finding(BEYOND);
        }
        int star = sky.nearestOf(sky.brightSet(sky.life), place);
        return star < 0 ? finding(NONE) : star;
    }

    public int sees(int star) {
        if (!isBelow(star, sky.stars)) {
            return finding(BEYOND);
        }
        int bright = sky.brightSet(sky.life);
        int places = 0;
        for (int place = 0; place < PLACES; place++) {
            if (sky.nearestOf(bright, place) == star) {
                places++;
            }
        }
        return places;
    }

    // ---- what dimmed

    public int which(int s) {
        int lack = lackOfSheet(s);
        if (lack != 0) {
            return lack;
        }
        int found = 0;
        for (int star = 0; star < sky.stars; star++) {
            if (isAsSheet(sheets[s], star, sky.kind[star])) {
                found |= 1 << star;
            }
        }
        return found;
    }

    public int kinds(int s, int star) {
        int lack = lackOfSheet(s);
        if (lack != 0) {
            return lack;
        }
        if (!isBelow(star, sky.stars)) {
            return finding(BEYOND);
        }
        int found = 0;
        for (int kind = 0; kind < KINDS; kind++) {
            if (isAsSheet(sheets[s], star, kind)) {
                found++;
            }
        }
        return found;
    }

    // ---- dropped tools

    public int drops(int n) {
        if (n < 1 || n > MOST_DROPS) {
            return finding(BEYOND);
        }
        if (sky.night + n > MOST_NIGHT) {
            return finding(STATE);
        }
        int hits = 0;
        for (int i = 0; i < n; i++) {
            int number = sky.draw() % TOOL_NUMBERS;
            if (isBelow(number, sky.stars)) {
                sky.life[number] = 0;
                hits++;
            }
            sky.passNight();
        }
        return hits;
    }

    public long odds(int n, int what) {
        if (!isWithin(n, MOST_TOOLS) || !isWithin(what, 1)) {
            return finding(BEYOND);
        }
        int above = TOOL_NUMBERS - sky.stars;
        int below = TOOL_NUMBERS;
        // 16 has no divisor but twos, so halving alone brings lowest terms
        for (int i = 0; i < 4 && above % 2 == 0 && below % 2 == 0; i++) {
            above /= 2;
            below /= 2;
        }
        return power(what == 0 ? above : below, n);
    }

    public int seed(int v) {
        int was = sky.z;
        sky.z = v;
        return was;
    }

    // ---- texts

    public int feed(int bytes, int n) {
        if (n < 1 || n > 4) {
            return finding(BEYOND);
        }
        if (reader.tape.length + n > TAPE) {
            return finding(FULL);
        }
        reader.tape.append(bytes, n);
        return reader.tape.length;
    }

    public int wipe() {
        int had = reader.tape.length;
        reader.tape.length = 0;
        return had;
    }

    public int text() {
        draft.become(sky);
        int items = reader.readInto(draft);
        reader.tape.length = 0;
        if (items >= 0) {
            sky.become(draft);
        }
        return items;
    }

    // ---- spots, sheets

    public int hold(int spot, int star) {
        if (!isBelow(spot, SPOTS) || (star != -1 && !isBelow(star, sky.stars))) {
            return finding(BEYOND);
        }
        sky.spots[spot] = star;
        return 1;
    }

    public int as(int spot, int kind) {
        if (!isBelow(spot, SPOTS) || !isBelow(kind, KINDS)) {
            return finding(BEYOND);
        }
        int star = sky.spots[spot];
        if (!isBelow(star, sky.stars)) {
            return finding(MISSING);
        }
        return isUnder(sky.kind[star], kind) ? star : finding(KIND);
    }

    public int sheet(int s, int bits, int n) {
        if (!isBelow(s, SHEETS) || (bits != 0 && bits != 8 && bits != 16 && bits != 32)) {
            return finding(BEYOND);
        }
        if (n < 0) {
            return finding(SIZE);
        }
        if (n > NUMBERS) {
            return finding(BEYOND);
        }
        sheets[s].renew(bits, n);
        return sheets[s].length;
    }

    public int write(int s, int i, int v) {
        int lack = lackOfSheet(s);
        if (lack != 0) {
            return lack;
        }
        if (!isBelow(i, sheets[s].length)) {
            return finding(BEYOND);
        }
        sheets[s].put(i, v);
        return 1;
    }

    public int copy(int s, int from, int t, int to, int n) {
        if (!isBelow(s, SHEETS) || !isBelow(t, SHEETS)) {
            return finding(BEYOND);
        }
        Sheet source = sheets[s];
        Sheet target = sheets[t];
        if (source.bits == 0 || target.bits == 0) {
            return finding(MISSING);
        }
        if (source.bits != target.bits) {
            return finding(KIND);
        }
        if (!source.hasRange(from, n) || !target.hasRange(to, n)) {
            return finding(BEYOND);
        }
        System.arraycopy(source.numbers, from, target.numbers, to, n);
        return n;
    }

    public int load(int s) {
        int lack = lackOfSheet(s);
        if (lack != 0) {
            return lack;
        }
        Sheet sheet = sheets[s];
        int most = Math.min(sheet.length, sky.stars);
        int came = 0;
        while (came < most && isWithin(sheet.numbers[came], MOST_LIFE)) {
            sky.life[came] = sheet.numbers[came];
            came++;
        }
        return came;
    }

    public int judge(int s) {
        int lack = lackOfSheet(s);
        if (lack != 0) {
            return lack;
        }
        Sheet sheet = sheets[s];
        int left = sky.crewSteps[0];
        int at = sky.crewPlace[0];
        int mended = 0;
        for (int i = 0; i < sheet.length; i++) {
            int star = sheet.numbers[i];
            if (!isBelow(star, sky.stars) || (mended >> star & 1) == 1) {
                return i + 1;
            }
            left -= stepsBetween(at, sky.place[star]) + sky.settings[MEND];
            if (left < 0) {
                return i + 1;
            }
            at = sky.place[star];
            mended |= 1 << star;
        }
        return 0;
    }

    // ---- images

    public int image() {
        kept.become(sky);
        isKept = true;
        return 1;
    }

    public int undo() {
        if (!isKept) {
            return finding(NONE);
        }
        sky.become(kept);
        return sky.night;
    }

    public int tear() {
        int was = isKept ? 1 : 0;
        isKept = false;
        return was;
    }

    public int count(int what) {
        switch (what) {
            case 0:
                return sky.night;
            case 1:
                return sky.stars;
            case 2:
                return Integer.bitCount(sky.brightSet(sky.life));
            case 3:
                return sky.signs;
            case 4:
                return sky.lifeTogether();
            case 5:
                return reader.tape.length;
            case 6:
                return sky.z;
            case 7:
                return sky.spotsHeld();
            default:
                return finding(BEYOND);
        }
    }

    public int status(int which) {
        if (which == -1) {
            int all = 0;
            for (int i = 0; i < FINDINGS; i++) {
                all += findings[i];
            }
            return all;
        }
        if (!isBelow(which, FINDINGS)) {
            return finding(BEYOND);
        }
        return findings[which];
    }

    // ---- what the acts share

    private int finding(int kind) {
        findings[kind]++;
        return LOW - kind;
    }

    private static boolean isBelow(int v, int bound) {
        return v >= 0 && v < bound;
    }

    private static boolean isWithin(int v, int most) {
        return v >= 0 && v <= most;
    }

    private boolean isSetOfStars(int stars) {
        return isBelow(stars, 1 << sky.stars);
    }

    private static int replaced(int[] row, int i, int v) {
        int was = row[i];
        row[i] = v;
        return was;
    }

    private static int stepsBetween(int a, int b) {
        int oneWay = Math.abs(a - b);
        return Math.min(oneWay, PLACES - oneWay);
    }

    private static long power(int base, int n) {
        long product = 1;
        for (int i = 0; i < n; i++) {
            product *= base;
        }
        return product;
    }

    private static boolean isUnder(int kind, int wanted) {
        int step = kind;
        for (int i = 0; i < KINDS && step >= 0; i++) {
            if (step == wanted) {
                return true;
            }
            step = kindOver(step);
        }
        return false;
    }

    private static int kindOver(int kind) {
        switch (kind) {
            case RED:
            case FIXED:
            case OLD:
                return LAMP;
            case POLE:
                return FIXED;
            case GUIDE:
                return POLE;
            case GIANT:
                return RED;
            default:
                return -1;
        }
    }

    private void copyLives() {
        System.arraycopy(sky.life, 0, lives, 0, STARS);
    }

    private int bestSet(int crew) {
        walker.standAt(sky, sky.crewPlace[crew]);
        int most = 0;
        int found = 0;
        for (int stars = 1; stars < 1 << sky.stars; stars++) {
            int worth = sky.worthOf(stars);
            // worth is looked at first, for it spares most of the walks
            if (worth > most && Integer.bitCount(stars) <= sky.settings[PARTS]
                    && walker.stepsBy(stars) <= sky.crewSteps[crew]) {
                most = worth;
                found = stars;
            }
        }
        return found;
    }

    private boolean canShare(int a, int b, int stars) {
        return isBelow(a, CREWS) && isBelow(b, CREWS) && a != b && isSetOfStars(stars);
    }

    private int firstShare(int a, int b, int stars) {
        walker.standAt(sky, sky.crewPlace[a]);
        secondWalker.standAt(sky, sky.crewPlace[b]);
        int fewest = FAR;
        int found = 0;
        for (int part = 0; part <= stars; part++) {
            if ((part & ~stars) == 0) {
                int steps = longerWay(part, stars);
                if (steps < fewest) {
                    fewest = steps;
                    found = part;
                }
            }
        }
        return found;
    }

    private int longerWay(int part, int stars) {
        return Math.max(walker.stepsBy(part), secondWalker.stepsBy(stars & ~part));
    }

    /** 0, or the finding that the acts on a sheet answer first. */
    private int lackOfSheet(int s) {
        if (!isBelow(s, SHEETS)) {
            return finding(BEYOND);
        }
        return sheets[s].bits == 0 ? finding(MISSING) : 0;
    }

    private boolean isAsSheet(Sheet sheet, int star, int kind) {
        int life = sky.life[star];
        for (int i = 0; i < sheet.length; i++) {
            int tells = sheet.numbers[i];
            if (tells != -1 && tells != life) {
                return false;
            }
            life = sky.lifeNext(kind, life, sky.settings[DUST]);
        }
        return true;
    }

    /** All that an image keeps. */
    private static final class Sky {
        int stars = 0;
        final int[] kind = new int[STARS];
        final int[] place = new int[STARS];
        final int[] life = new int[STARS];
        final int[] worth = new int[STARS];
        final int[] crewPlace = new int[CREWS];
        final int[] crewSteps = new int[CREWS];
        final int[] settings = new int[SETTINGS];
        int night = 0;
        int signs = 0;
        final int[] signStars = new int[SIGNS];
        final int[] spots = new int[SPOTS];
        int z = 1;

        Sky() {
            Arrays.fill(crewSteps, FIRST_STEPS);
            Arrays.fill(spots, -1);
            settings[DUST] = 1;
            settings[MEND] = 5;
            settings[PARTS] = 20;
        }

        void become(Sky other) {
            stars = other.stars;
            System.arraycopy(other.kind, 0, kind, 0, STARS);
            System.arraycopy(other.place, 0, place, 0, STARS);
            System.arraycopy(other.life, 0, life, 0, STARS);
            System.arraycopy(other.worth, 0, worth, 0, STARS);
            System.arraycopy(other.crewPlace, 0, crewPlace, 0, CREWS);
            System.arraycopy(other.crewSteps, 0, crewSteps, 0, CREWS);
            System.arraycopy(other.settings, 0, settings, 0, SETTINGS);
            night = other.night;
            signs = other.signs;
            System.arraycopy(other.signStars, 0, signStars, 0, SIGNS);
            System.arraycopy(other.spots, 0, spots, 0, SPOTS);
            z = other.z;
        }

        int[] starRow(int what) {
            switch (what) {
                case 0:
                    return kind;
                case 1:
                    return place;
                case 2:
                    return life;
                case 3:
                    return worth;
                default:
                    return null;
            }
        }

        static int mostOfStar(int what) {
            switch (what) {
                case 0:
                    return KINDS - 1;
                case 1:
                    return PLACES - 1;
                case 2:
                    return MOST_LIFE;
                default:
                    return MOST_WORTH;
            }
        }

        int[] crewRow(int what) {
            switch (what) {
                case 0:
                    return crewPlace;
                case 1:
                    return crewSteps;
                default:
                    return null;
            }
        }

        static int mostOfCrew(int what) {
            return what == 0 ? PLACES - 1 : MOST_STEPS;
        }

        /** The caller has looked whether there is room. */
        int addStar(int newKind, int newPlace, int newLife, int newWorth) {
            kind[stars] = newKind;
            place[stars] = newPlace;
            life[stars] = newLife;
            worth[stars] = newWorth;
            stars++;
            return stars - 1;
        }

        /** The caller has looked whether there is room. */
        int addSign(int set) {
            signStars[signs] = set;
            signs++;
            return signs - 1;
        }

        int wearOf(int ofKind, int ofLife, int dust) {
            int lamp = dust + 1;
            int pole = lamp / 2 + (settings[WISHES] >= 5 ? 1 : 0);
            switch (ofKind) {
                case RED:
                    return lamp + 2;
                case GIANT:
                    return 2 * (lamp + 2);
                case FIXED:
                    return lamp / 2;
                case POLE:
                    return pole;
                case GUIDE:
                    return pole + settings[WISHES];
                case OLD:
                    return lamp + (MOST_LIFE - ofLife) / 10;
                default:
                    return lamp;
            }
        }

        int dimOf(int ofKind) {
            int lamp = 9;
            switch (ofKind) {
                case RED:
                case GIANT:
                    return 19;
                case FIXED:
                    return lamp / 2;
                case POLE:
                case GUIDE:
                    return 0;
                case OLD:
                    return lamp + settings[WISHES];
                default:
                    return lamp;
            }
        }

        boolean isBright(int ofKind, int ofLife) {
            return ofLife > dimOf(ofKind);
        }

        int lifeNext(int ofKind, int ofLife, int dust) {
            return Math.max(0, ofLife - wearOf(ofKind, ofLife, dust));
        }

        int lifeBehind(int star, int dust, int nights) {
            int left = life[star];
            for (int i = 0; i < nights; i++) {
                left = lifeNext(kind[star], left, dust);
            }
            return left;
        }

        /** Above MOST_AHEAD, if it is still bright by then. */
        int nightsBright(int star, int asKind) {
            int left = life[star];
            int nights = 0;
            while (nights <= MOST_AHEAD && isBright(asKind, left)) {
                left = lifeNext(asKind, left, settings[DUST]);
                nights++;
            }
            return nights;
        }

        void passNight() {
            wearDown(life);
            night++;
        }

        void wearDown(int[] ofLives) {
            for (int star = 0; star < stars; star++) {
                ofLives[star] = lifeNext(kind[star], ofLives[star], settings[DUST]);
            }
        }

        int mendDark(int[] ofLives) {
            int mended = 0;
            for (int star = 0; star < stars; star++) {
                if (!isBright(kind[star], ofLives[star])) {
                    ofLives[star] = MOST_LIFE;
                    mended++;
                }
            }
            return mended;
        }

        int brightSet(int[] ofLives) {
            int found = 0;
            for (int star = 0; star < stars; star++) {
                if (isBright(kind[star], ofLives[star])) {
                    found |= 1 << star;
                }
            }
            return found;
        }

        int lifeTogether() {
            int sum = 0;
            for (int star = 0; star < stars; star++) {
                sum += life[star];
            }
            return sum;
        }

        int worthOf(int set) {
            int sum = 0;
            for (int star = 0; star < stars; star++) {
                if ((set >> star & 1) == 1) {
                    sum += worth[star];
                }
            }
            return sum;
        }

        int signsWith(int part) {
            int found = 0;
            for (int sign = 0; sign < signs; sign++) {
                if ((part & ~signStars[sign]) == 0) {
                    found |= 1 << sign;
                }
            }
            return found;
        }

        /** -1 if the set is empty. */
        int nearestOf(int set, int from) {
            int fewest = FAR;
            int found = -1;
            for (int star = 0; star < stars; star++) {
                int steps = stepsBetween(from, place[star]);
                if ((set >> star & 1) == 1 && steps < fewest) {
                    fewest = steps;
                    found = star;
                }
            }
            return found;
        }

        int spotsHeld() {
            int held = 0;
            for (int spot = 0; spot < SPOTS; spot++) {
                if (spots[spot] >= 0) {
                    held++;
                }
            }
            return held;
        }

        int draw() {
            z = z * 1103515245 + 12345;
            return z >>> 8;
        }
    }

    /** Counts rounds from one place; stars are put in order once, for many sets of them. */
    private static final class Walker {
        private final int[] order = new int[STARS];
        private final int[] onward = new int[STARS];
        private int stars = 0;
        private int mend = 0;

        void standAt(Sky sky, int place) {
            stars = sky.stars;
            mend = sky.settings[MEND];
            for (int star = 0; star < stars; star++) {
                insert(star, (sky.place[star] - place + PLACES) % PLACES, star);
            }
        }

        private void insert(int star, int steps, int filled) {
            int i = filled;
            while (i > 0 && onward[i - 1] > steps) {
                order[i] = order[i - 1];
                onward[i] = onward[i - 1];
                i--;
            }
            order[i] = star;
            onward[i] = steps;
        }

        /** Any round goes onward to some star of the set and the other way round for those behind it. */
        int stepsBy(int set) {
            int fewest = FAR;
            int reached = 0;
            for (int i = 0; i < stars; i++) {
                if ((set >> order[i] & 1) == 1) {
                    int back = PLACES - onward[i];
                    fewest = Math.min(fewest, reached + back + Math.min(reached, back));
                    reached = onward[i];
                }
            }
            return Math.min(fewest, reached) + mend * Integer.bitCount(set);
        }
    }

    /** A row of numbers; of 0 bits it is MISSING. */
    private static final class Sheet {
        int bits = 0;
        int length = 0;
        final int[] numbers = new int[NUMBERS];

        void renew(int newBits, int newLength) {
            bits = newBits;
            length = newBits == 0 ? 0 : newLength;
            Arrays.fill(numbers, 0);
        }

        void put(int i, int v) {
            if (bits == 8) {
                numbers[i] = (byte) v;
            } else if (bits == 16) {
                numbers[i] = (short) v;
            } else {
                numbers[i] = v;
            }
        }

        /** The last test takes n away, since a sum could run over. */
        boolean hasRange(int first, int n) {
            return first >= 0 && n >= 0 && first <= length - n;
        }
    }

    /** The bytes that were fed, and the token among them that is looked at. */
    private static final class Tape {
        static final int END = 0;
        static final int WORD = 1;
        static final int NUMBER = 2;
        static final int STOP = 3;
        static final int OTHER = 4;
        private static final int TOO_GREAT = 100000;

        private final byte[] bytes = new byte[TAPE];
        int length = 0;
        int type = END;
        int start = 0;
        int value = 0;
        private int next = 0;

        /** The caller has looked whether there is room. */
        void append(int number, int n) {
            for (int i = n - 1; i >= 0; i--) {
                bytes[length] = (byte) (number >> 8 * i);
                length++;
            }
        }

        void rewind() {
            next = 0;
            advance();
        }

        void advance() {
            while (next < length && bytes[next] == ' ') {
                next++;
            }
            start = next;
            if (start >= length) {
                type = END;
            } else if (bytes[start] >= 'a' && bytes[start] <= 'z') {
                type = WORD;
                while (next < length && bytes[next] >= 'a' && bytes[next] <= 'z') {
                    next++;
                }
            } else if (bytes[start] >= '0' && bytes[start] <= '9') {
                type = NUMBER;
                value = 0;
                while (next < length && bytes[next] >= '0' && bytes[next] <= '9') {
                    // digits may go on for the whole tape: a value that is too great grows no more
                    value = value >= TOO_GREAT ? TOO_GREAT : value * 10 + bytes[next] - '0';
                    next++;
                }
            } else {
                type = bytes[start] == ';' ? STOP : OTHER;
                next++;
            }
        }

        boolean isWord(String word) {
            if (type != WORD || next - start != word.length()) {
                return false;
            }
            for (int i = 0; i < word.length(); i++) {
                if (bytes[start + i] != word.charAt(i)) {
                    return false;
                }
            }
            return true;
        }
    }

    /** Reads a text item by item; where it stops short, the tape's token is the fault. */
    private static final class TextReader {
        private static final int FAULT = -1;
        final Tape tape = new Tape();

        /** How many items, or -1 less the fault. */
        int readInto(Sky sky) {
            tape.rewind();
            for (int items = 1; items <= TAPE; items++) {
                if (!readItem(sky)) {
                    break;
                }
                if (tape.type == Tape.END) {
                    return items;
                }
                if (tape.type != Tape.STOP) {
                    break;
                }
                tape.advance();
            }
            return -1 - tape.start;
        }

        private boolean readItem(Sky sky) {
            if (tape.isWord("crew")) {
                return readCrew(sky);
            }
            if (tape.isWord("sign")) {
                return readSign(sky);
            }
            int kind = kindNamed();
            if (kind >= 0) {
                return readStar(sky, kind);
            }
            int what = settingNamed();
            return what >= 0 && readSetting(sky, what);
        }

        private int kindNamed() {
            if (tape.isWord("lamp")) {
                return LAMP;
            }
            if (tape.isWord("red")) {
                return RED;
            }
            if (tape.isWord("fixed")) {
                return FIXED;
            }
            if (tape.isWord("pole")) {
                return POLE;
            }
            if (tape.isWord("guide")) {
                return GUIDE;
            }
            if (tape.isWord("old")) {
                return OLD;
            }
            return tape.isWord("giant") ? GIANT : -1;
        }

        private int settingNamed() {
            if (tape.isWord("dust")) {
                return DUST;
            }
            if (tape.isWord("wishes")) {
                return WISHES;
            }
            if (tape.isWord("mend")) {
                return MEND;
            }
            return tape.isWord("parts") ? PARTS : -1;
        }

        private boolean readStar(Sky sky, int kind) {
            if (sky.stars >= STARS) {
                return false;
            }
            tape.advance();
            int place = numberBehind("at", PLACES - 1, 0);
            if (place == FAULT) {
                return false;
            }
            int life = numberBehind("life", MOST_LIFE, FIRST_LIFE);
            if (life == FAULT) {
                return false;
            }
            int worth = numberBehind("worth", MOST_WORTH, FIRST_WORTH);
            if (worth == FAULT) {
                return false;
            }
            sky.addStar(kind, place, life, worth);
            return true;
        }

        private boolean readCrew(Sky sky) {
            tape.advance();
            int crew = number(0, CREWS - 1);
            if (crew == FAULT) {
                return false;
            }
            int place = numberBehind("at", PLACES - 1, sky.crewPlace[crew]);
            if (place == FAULT) {
                return false;
            }
            int steps = numberBehind("steps", MOST_STEPS, sky.crewSteps[crew]);
            if (steps == FAULT) {
                return false;
            }
            sky.crewPlace[crew] = place;
            sky.crewSteps[crew] = steps;
            return true;
        }

        private boolean readSign(Sky sky) {
            if (sky.signs >= SIGNS) {
                return false;
            }
            tape.advance();
            int set = number(1, (1 << sky.stars) - 1);
            if (set == FAULT) {
                return false;
            }
            sky.addSign(set);
            return true;
        }

        private boolean readSetting(Sky sky, int what) {
            tape.advance();
            int v = number(0, MOST_SETTING[what]);
            if (v == FAULT) {
                return false;
            }
            sky.settings[what] = v;
            return true;
        }

        private int numberBehind(String word, int most, int without) {
            if (!tape.isWord(word)) {
                return without;
            }
            tape.advance();
            return number(0, most);
        }

        private int number(int least, int most) {
            int v = tape.value;
            if (tape.type != Tape.NUMBER || v < least || v > most) {
                return FAULT;
            }
            tape.advance();
            return v;
        }
    }
}
