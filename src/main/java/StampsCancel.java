import java.util.Arrays;

/**
 * A land of towns and gates, where whoever goes through a watched gate has it stamped on a paper,
 * and who comes back through it has both stamps struck out. See DOC.md for the promises.
 *
 * Every row is made in a constructor and used again, so that no call makes an object.
 */
public final class StampsCancel {
    public static final int NONE = -1, BAD = -2, NOT = -3, FULL = -4;

    private static final int TEXTS = 4, LAND_BYTES = 50, WAY_BYTES = 30;
    private static final int TOWNS = 8, ALL_TOWNS = 255, GATES = 9, ALL_GATES = 511, LETTERS = 2 * GATES;
    private static final int MOST_ROOM = 11, PLACES = 11, ALL_PLACES = 2047, MOST_LISTED = 12;
    private static final int SHEETS = 4, FORMS = 3, BYTES = 0, SHORTS = 1, ITEMS = 60;
    private static final int MOST_STEPS = 12, DIGEST_STEPS = 6, DIGEST_PLACES = 7;
    private static final int NO_FINDING = 0, NULL = 1, INDEX = 2, CAST = 3, STORE = 4, SIZE = 5;
    private static final int LEAST_INT = -2147483648;
    private static final long LEAST_LONG = -9223372036854775808L;

    private final Land land = new Land();
    private final Text[] texts = new Text[TEXTS];
    private final Paper paperA = new Paper();
    private final Paper paperB = new Paper();
    private final Judge judge = new Judge(land);
    private final Route route = new Route(land);
    private final Errands errands = new Errands(land);
    private final Walks walks = new Walks(land);
    private final Listing listing = new Listing();
    private final Distances now = new Distances();
    private final Distances then = new Distances();
    private final Sheets sheets = new Sheets();

    public StampsCancel() {
        for (int text = 0; text < TEXTS; text++) {
            texts[text] = new Text(text == 0 ? LAND_BYTES : WAY_BYTES);
        }
    }

    // ---- texts, gates

    public int type(int text, int b) {
        if (!isText(text) || b < 0 || b > 255) {
            return BAD;
        }
        if (texts[text].isFull()) {
            return FULL;
        }
        texts[text].append(b);
        learnIfLand(text);
        return texts[text].size();
    }

    public int wipe(int text) {
        if (!isText(text)) {
            return BAD;
        }
        int had = texts[text].size();
        texts[text].empty();
        learnIfLand(text);
        return had;
    }

    public int fault(int text) {
        if (!isText(text)) {
            return BAD;
        }
        return text == 0 ? land.faultPlace() : wayFault(texts[text]);
    }

    public int gate(int gate, int what) {
        if (!land.hasGate(gate) || what < 0 || what > 3) {
            return BAD;
        }
        switch (what) {
            case 0:
                return land.from(2 * gate);
            case 1:
                return land.to(2 * gate);
            case 2:
                return land.isWatched(2 * gate) ? 1 : 0;
            default:
                return land.isOpen(2 * gate) ? 0 : 1;
        }
    }

    public int room() {
        return land.roomTold();
    }

    public int shut(int gates) {
        if (gates < 0 || gates > ALL_GATES) {
            return BAD;
        }
        return land.close(gates);
    }

    // ---- papers

    public int paper(int way, int i) {
        if (!isWay(way) || i < NONE) {
            return BAD;
        }
        stampWay(way, paperA);
        return i == NONE ? paperA.size() : byteOf(paperA.at(i));
    }

    public int judged(int way, int town, int begins, int what) {
        if (!isWay(way) || !isTown(town) || !isWayOrClean(begins) || what < 0 || what > 4) {
            return BAD;
        }
        judgeWay(way, town, begins);
        return judge.verdict(what);
    }

    public int same(int a, int b) {
        if (!isWay(a) || !isWay(b)) {
            return BAD;
        }
        stampWay(a, paperA);
        stampWay(b, paperB);
        int alike = paperA.alike(paperB);
        return alike == paperA.size() && alike == paperB.size() ? 1 : 0;
    }

    public long shortest(int from, int a, int to, int b, int what) {
        if (!areEnds(from, a, to, b) || what < 0 || what > 1) {
            return longRefusal(BAD);
        }
        int gates = planRoute(from, a, to, b);
        if (what == 0) {
            return gates;
        }
        return gates == NONE ? 0 : route.ways(from, to);
    }

    public int letter(int from, int a, int to, int b, int i) {
        if (!areEnds(from, a, to, b) || i < 0) {
            return BAD;
        }
        int gates = planRoute(from, a, to, b);
        return i < gates ? byteOf(route.leastLetter(from, to, i)) : NONE;
    }

    public int errands(int home, int towns, int what) {
        if (!isTown(home) || towns < 0 || towns > ALL_TOWNS || what < 0 || what > 1) {
            return BAD;
        }
        int fullest = errands.fullest(home, towns);
        return what == 0 || fullest == NONE ? fullest : 2 * errands.stepsTo(towns);
    }

    public int clean(int home) {
        return isTown(home) ? errands.homely(home) : BAD;
    }

    // ---- papers that were found

    public int found(int way, int what) {
        if (!isWay(way) || what < 0 || what > 1) {
            return BAD;
        }
        paperA.empty();
        stampWay(way, paperB);
        route.plan(paperA, paperB);
        return what == 0 ? route.starts() : route.ends();
    }

    public long many(int from, int way, int to, int n) {
        if (!isTown(from) || !isWay(way) || !isTown(to) || n < 0 || n > MOST_STEPS) {
            return longRefusal(BAD);
        }
        stampWay(way, paperA);
        return walks.number(from, paperA, to, n);
    }

    // ---- clerks

    public int list(int way, int good) {
        if (!isWay(way) || good < 0 || good > 1) {
            return BAD;
        }
        if (listing.isFull()) {
            return FULL;
        }
        stampWay(way, paperA);
        listing.append(paperA, good);
        return listing.size();
    }

    public int read(int s) {
        if (!isSheet(s)) {
            return BAD;
        }
        if (sheets.isLost(s)) {
            return sheets.find(NULL);
        }
        int before = listing.size();
        paperA.empty();
        for (int i = 0; i <= sheets.size(s); i++) {
            int letter = i < sheets.size(s) ? land.letterOf(sheets.item(s, i)) : NONE;
            if (letter == NONE) {
                listIfRoom(paperA);
                paperA.empty();
            } else if (land.isWatched(letter)) {
                paperA.stamp(letter);
            }
        }
        return listing.size() - before;
    }

    public int unlist() {
        if (listing.size() == 0) {
            return NOT;
        }
        listing.dropLast();
        return listing.size();
    }

    public int listed(int k, int what) {
        if (k < 0 || k >= listing.size() || what < NONE || what >= PLACES) {
            return BAD;
        }
        return what == NONE ? listing.stampsOf(k) : byteOf(listing.stampAt(k, what));
    }

    public int lets(int way, int places) {
        if (!isWay(way) || !arePlaces(places)) {
            return BAD;
        }
        stampWay(way, paperA);
        return listing.letsBy(paperA, places) ? 1 : 0;
    }

    public int slips(int places) {
        return arePlaces(places) ? listing.slipping(places) : BAD;
    }

    public int fewest() {
        return listing.fewestPlaces();
    }

    // ---- changes

    public int far(int from, int to) {
        if (!isTown(from) || !isTown(to)) {
            return BAD;
        }
        now.measureFrom(land, land.openGates(), from);
        return now.between(from, to);
    }

    public int without(int gate, int what) {
        if (!land.hasGate(gate) || what < 0 || what > 1) {
            return BAD;
        }
        int open = land.openGates();
        int left = open & ~(1 << gate);
        if (left == open) {
            return 0;
        }
        now.measure(land, open);
        then.measure(land, left);
        return what == 0 ? now.pairsUnlike(then) : now.mostUnlike(then);
    }

    public int with(int a, int b, int what) {
        if (!isTown(a) || !isTown(b) || what < 0 || what > 1) {
            return BAD;
        }
        now.measure(land, land.openGates());
        then.measureLinked(land, land.openGates(), a, b);
        return what == 0 ? now.pairsUnlike(then) : now.mostUnlike(then);
    }

    // ---- sheets

    public int sheet(int s, int form, int n) {
        if (!isSheet(s) || !isForm(form) || n > ITEMS) {
            return BAD;
        }
        if (n < 0) {
            return sheets.find(SIZE);
        }
        sheets.make(s, form, n);
        return n;
    }

    public int lose(int s) {
        if (!isSheet(s)) {
            return BAD;
        }
        if (sheets.isLost(s)) {
            return sheets.find(NULL);
        }
        int had = sheets.size(s);
        sheets.drop(s);
        return had;
    }

    public int lay(int s, int form, int i, int v) {
        if (!isSheet(s) || !isForm(form)) {
            return BAD;
        }
        int finding = sheets.findingAt(s, form, i);
        if (finding != NO_FINDING) {
            return sheets.find(finding);
        }
        sheets.put(s, i, v);
        return 1;
    }

    public int get(int s, int form, int i) {
        if (!isSheet(s) || !isForm(form)) {
            return LEAST_INT;
        }
        int finding = sheets.findingAt(s, form, i);
        if (finding != NO_FINDING) {
            sheets.find(finding);
            return LEAST_INT;
        }
        return sheets.item(s, i);
    }

    public int copy(int s, int i, int t, int j, int n) {
        if (!isSheet(s) || !isSheet(t)) {
            return BAD;
        }
        int finding = sheets.findingOfCopy(s, i, t, j, n);
        if (finding != NO_FINDING) {
            return sheets.find(finding);
        }
        sheets.move(s, i, t, j, n);
        return 1;
    }

    public int write(int way, int s) {
        if (!isWay(way) || !isSheet(s)) {
            return BAD;
        }
        if (sheets.isLost(s)) {
            return sheets.find(NULL);
        }
        stampWay(way, paperA);
        int written = Math.min(paperA.size(), sheets.size(s));
        for (int i = 0; i < written; i++) {
            sheets.put(s, i, byteOf(paperA.at(i)));
        }
        return written;
    }

    public int count(int what) {
        if (what < 0 || what > 8) {
            return BAD;
        }
        switch (what) {
            case 0:
                return land.gatesTold();
            case 1:
                return land.gatesWatched();
            case 6:
                return listing.size();
            case 7:
                return listing.goodOnes();
            case 8:
                return sheets.latestFinding();
            default:
                return texts[what - 2].size();
        }
    }

    public long digest() {
        long h = 17;
        for (int what = 0; what <= 7; what++) {
            h = 31 * h + count(what);
        }
        for (int text = 0; text < TEXTS; text++) {
            h = 31 * h + fault(text);
        }
        h = 31 * h + room();
        for (int gate = 0; gate < land.gatesTold(); gate++) {
            h = digestGate(h, gate);
        }
        for (int way = 1; way < TEXTS; way++) {
            h = digestWay(h, way);
        }
        h = 31 * h + same(1, 2);
        for (int town = 0; town < TOWNS; town++) {
            h = digestTown(h, town);
        }
        h = 31 * h + slips(DIGEST_PLACES);
        return 31 * h + fewest();
    }

    private long digestGate(long begun, int gate) {
        long h = begun;
        for (int what = 0; what <= 3; what++) {
            h = 31 * h + gate(gate, what);
        }
        h = 31 * h + without(gate, 0);
        return 31 * h + without(gate, 1);
    }

    private long digestWay(long begun, int way) {
        int stamps = paper(way, NONE);
        long h = 31 * begun + stamps;
        for (int i = 0; i < stamps; i++) {
            h = 31 * h + paper(way, i);
        }
        for (int what = 0; what <= 4; what++) {
            h = 31 * h + judged(way, 0, 0, what);
        }
        h = 31 * h + found(way, 0);
        h = 31 * h + found(way, 1);
        int there = judged(way, 0, 0, 1);
        h = 31 * h + shortest(0, 0, there, way, 0);
        h = 31 * h + shortest(0, 0, there, way, 1);
        return 31 * h + many(0, way, there, DIGEST_STEPS);
    }

    private long digestTown(long begun, int town) {
        long h = 31 * begun + clean(town);
        h = 31 * h + far(0, town);
        h = 31 * h + errands(0, 1 << town, 0);
        return 31 * h + errands(0, 1 << town, 1);
    }

    // ---- what the calls share

    private static boolean isText(int text) {
        return text >= 0 && text < TEXTS;
    }

    private static boolean isWay(int way) {
        return way >= 1 && way < TEXTS;
    }

    private static boolean isWayOrClean(int way) {
        return way >= 0 && way < TEXTS;
    }

    private static boolean isTown(int town) {
        return town >= 0 && town < TOWNS;
    }

    private static boolean arePlaces(int places) {
        return places >= 0 && places <= ALL_PLACES;
    }

    private static boolean isSheet(int s) {
        return s >= 0 && s < SHEETS;
    }

    private static boolean isForm(int form) {
        return form >= 0 && form < FORMS;
    }

    private static boolean areEnds(int from, int a, int to, int b) {
        return isTown(from) && isWayOrClean(a) && isTown(to) && isWayOrClean(b);
    }

    private static long longRefusal(int refusal) {
        return LEAST_LONG - refusal;
    }

    /** Letters are counted inside: 2 g is GATE g by its small letter, 2 g + 1 by its great one. */
    private static int byteOf(int letter) {
        if (letter == NONE) {
            return NONE;
        }
        return ((letter & 1) == 0 ? 'a' : 'A') + (letter >> 1);
    }

    private void learnIfLand(int text) {
        if (text == 0) {
            land.learn(texts[0]);
        }
    }

    private int wayFault(Text way) {
        for (int i = 0; i < way.size(); i++) {
            if (land.letterOf(way.at(i)) == NONE) {
                return i;
            }
        }
        return NONE;
    }

    private void stampWay(int way, Paper onto) {
        onto.empty();
        if (!isWay(way) || wayFault(texts[way]) != NONE) {
            return;
        }
        for (int i = 0; i < texts[way].size(); i++) {
            int letter = land.letterOf(texts[way].at(i));
            if (land.isWatched(letter)) {
                onto.stamp(letter);
            }
        }
    }

    private void judgeWay(int way, int town, int begins) {
        stampWay(begins, judge.onPaper());
        judge.begin(town);
        if (wayFault(texts[way]) == NONE) {
            judge.follow(texts[way]);
        }
    }

    private int planRoute(int from, int a, int to, int b) {
        stampWay(a, paperA);
        stampWay(b, paperB);
        if (Math.max(paperA.size(), paperB.size()) > land.roomTold()) {
            return NONE;
        }
        route.plan(paperA, paperB);
        return route.gatesBetween(from, to);
    }

    private void listIfRoom(Paper paper) {
        if (!listing.isFull()) {
            listing.append(paper, 1);
        }
    }

    /** Bytes, one behind another, up to a limit. */
    private static final class Text {
        private final int[] bytes = new int[LAND_BYTES];
        private final int limit;
        private int size;

        Text(int limit) {
            this.limit = Math.min(limit, LAND_BYTES);
        }

        boolean isFull() {
            return size >= limit;
        }

        void append(int b) {
            if (size < limit) {
                bytes[size] = b;
                size++;
            }
        }

        void empty() {
            size = 0;
        }

        int size() {
            return size;
        }

        int at(int i) {
            return i >= 0 && i < size ? bytes[i] : NONE;
        }
    }

    /** What the text of the LAND tells, and which GATES are SHUT. */
    private static final class Land {
        /** By letter: where it leads from; where it leads to stands at its other way about. */
        private final int[] from = new int[LETTERS];
        private int gates, watched, shut;
        private int room = MOST_ROOM;
        private int fault = NONE;

        void learn(Text text) {
            forget();
            fault = text.size() == 0 ? NONE : faultOf(text);
            if (fault != NONE) {
                forget();
            }
        }

        private void forget() {
            gates = 0;
            watched = 0;
            room = MOST_ROOM;
        }

        private int faultOf(Text text) {
            int at = 0;
            for (int part = 0; part < LAND_BYTES; part++) {
                int end = text.at(at) == 'r' ? takeRoom(text, at) : takeGate(text, at);
                if (end < 0) {
                    return ~end;
                }
                if (end == text.size()) {
                    return NONE;
                }
                if (text.at(end) != ';') {
                    return end;
                }
                at = end + 1;
            }
            return at;
        }

        /** Where the part ends, or, turned about by ~ to be told from it, where the FAULT is. */
        private int takeGate(Text text, int at) {
            if (!isTownByte(text.at(at)) || gates >= GATES) {
                return ~at;
            }
            if (!isTownByte(text.at(at + 1))) {
                return ~(at + 1);
            }
            from[2 * gates] = text.at(at) - '0';
            from[2 * gates + 1] = text.at(at + 1) - '0';
            boolean unwatched = text.at(at + 2) == 'u';
            if (!unwatched) {
                watched |= 1 << gates;
            }
            gates++;
            return unwatched ? at + 3 : at + 2;
        }

        /** As takeGate(). */
        private int takeRoom(Text text, int at) {
            int one = text.at(at + 1), two = text.at(at + 2);
            if (!isFigure(one)) {
                return ~(at + 1);
            }
            int told = isFigure(two) ? 10 * (one - '0') + two - '0' : one - '0';
            if (told < 1 || told > MOST_ROOM) {
                return ~(at + 1);
            }
            room = told;
            return isFigure(two) ? at + 3 : at + 2;
        }

        private static boolean isTownByte(int b) {
            return b >= '0' && b <= '7';
        }

        private static boolean isFigure(int b) {
            return b >= '0' && b <= '9';
        }

        int close(int gates) {
            int were = shut;
            shut = gates;
            return were;
        }

        int faultPlace() {
            return fault;
        }

        int roomTold() {
            return room;
        }

        int gatesTold() {
            return gates;
        }

        int gatesWatched() {
            return Integer.bitCount(watched);
        }

        boolean hasGate(int gate) {
            return gate >= 0 && gate < gates;
        }

        /** How many letters there are: those below it are letters of GATES that there are. */
        int letters() {
            return 2 * gates;
        }

        int letterOf(int b) {
            if (b >= 'a' && b < 'a' + gates) {
                return 2 * (b - 'a');
            }
            if (b >= 'A' && b < 'A' + gates) {
                return 2 * (b - 'A') + 1;
            }
            return NONE;
        }

        int from(int letter) {
            return letter >= 0 && letter < LETTERS ? from[letter] : NONE;
        }

        int to(int letter) {
            return letter >= 0 && letter < LETTERS ? from[letter ^ 1] : NONE;
        }

        boolean isWatched(int letter) {
            return letter >= 0 && (watched >> (letter >> 1) & 1) == 1;
        }

        boolean isOpen(int letter) {
            return letter >= 0 && (shut >> (letter >> 1) & 1) == 0;
        }

        int openGates() {
            return (1 << gates) - 1 & ~shut;
        }

        int openLanes() {
            return (1 << gates) - 1 & ~shut & ~watched;
        }
    }

    /** A row of stamps, none next to the same letter the other way about. */
    private static final class Paper {
        private final int[] stamps = new int[ITEMS];
        private int size;

        void empty() {
            size = 0;
        }

        int size() {
            return size;
        }

        int at(int i) {
            return i >= 0 && i < size ? stamps[i] : NONE;
        }

        boolean strikes(int letter) {
            return size > 0 && stamps[size - 1] == (letter ^ 1);
        }

        void stamp(int letter) {
            if (strikes(letter)) {
                size--;
            } else if (size < ITEMS) {
                stamps[size] = letter;
                size++;
            }
        }

        /** How many stamps both begin with. */
        int alike(Paper other) {
            int shorter = Math.min(size, other.size());
            for (int i = 0; i < shorter; i++) {
                if (at(i) != other.at(i)) {
                    return i;
                }
            }
            return shorter;
        }
    }

    /** Follows a WAY gate by gate, until a letter that may not be. */
    private static final class Judge {
        private final Land land;
        private final Paper paper = new Paper();
        private int place, town, fullest, struck;

        Judge(Land land) {
            this.land = land;
        }

        Paper onPaper() {
            return paper;
        }

        void begin(int start) {
            place = NONE;
            town = start;
            fullest = paper.size();
            struck = 0;
        }

        void follow(Text way) {
            for (int i = 0; i < way.size(); i++) {
                int letter = land.letterOf(way.at(i));
                if (!mayPass(letter)) {
                    place = i;
                    return;
                }
                pass(letter);
            }
        }

        private boolean mayPass(int letter) {
            if (land.from(letter) != town || !land.isOpen(letter)) {
                return false;
            }
            return !land.isWatched(letter) || paper.strikes(letter) || paper.size() < land.roomTold();
        }

        private void pass(int letter) {
            town = land.to(letter);
            if (!land.isWatched(letter)) {
                return;
            }
            if (paper.strikes(letter)) {
                struck++;
            }
            paper.stamp(letter);
            fullest = Math.max(fullest, paper.size());
        }

        int verdict(int what) {
            switch (what) {
                case 0:
                    return place;
                case 1:
                    return town;
                case 2:
                    return fullest;
                case 3:
                    return paper.size();
                default:
                    return struck;
            }
        }
    }

    /** The fewest GATES between TOWNS by some of the GATES, whatever PAPERS say. */
    private static final class Distances {
        private final int[][] apart = new int[TOWNS][TOWNS];
        private final int[] beside = new int[TOWNS];
        private final int[] queue = new int[TOWNS];

        void measure(Land land, int gates) {
            layOut(land, gates);
            for (int town = 0; town < TOWNS; town++) {
                spread(town);
            }
        }

        void measureLinked(Land land, int gates, int a, int b) {
            layOut(land, gates);
            link(a, b);
            for (int town = 0; town < TOWNS; town++) {
                spread(town);
            }
        }

        void measureFrom(Land land, int gates, int source) {
            layOut(land, gates);
            if (isTown(source)) {
                spread(source);
            }
        }

        int between(int a, int b) {
            return isTown(a) && isTown(b) ? apart[a][b] : NONE;
        }

        /** As bits. */
        int reachedFrom(int source) {
            int towns = 0;
            for (int town = 0; town < TOWNS; town++) {
                if (between(source, town) != NONE) {
                    towns |= 1 << town;
                }
            }
            return towns;
        }

        int pairsUnlike(Distances other) {
            int pairs = 0;
            for (int a = 0; a < TOWNS; a++) {
                for (int b = a + 1; b < TOWNS; b++) {
                    if (apart[a][b] != other.between(a, b)) {
                        pairs++;
                    }
                }
            }
            return pairs;
        }

        int mostUnlike(Distances other) {
            int most = 0;
            for (int a = 0; a < TOWNS; a++) {
                for (int b = a + 1; b < TOWNS; b++) {
                    int one = apart[a][b], two = other.between(a, b);
                    if (one != NONE && two != NONE) {
                        most = Math.max(most, Math.abs(one - two));
                    }
                }
            }
            return most;
        }

        private void layOut(Land land, int gates) {
            Arrays.fill(beside, 0);
            for (int gate = 0; gate < land.gatesTold(); gate++) {
                if ((gates >> gate & 1) == 1) {
                    link(land.from(2 * gate), land.to(2 * gate));
                }
            }
        }

        private void link(int a, int b) {
            if (a >= 0 && a < TOWNS && b >= 0 && b < TOWNS) {
                beside[a] |= 1 << b;
                beside[b] |= 1 << a;
            }
        }

        private void spread(int source) {
            int[] row = apart[source];
            Arrays.fill(row, NONE);
            row[source] = 0;
            queue[0] = source;
            int queued = 1, seen = 1 << source;
            for (int head = 0; head < queued && head < TOWNS; head++) {
                int here = queue[head];
                int fresh = beside[here] & ~seen;
                seen |= fresh;
                for (int there = 0; there < TOWNS && fresh >> there != 0; there++) {
                    if ((fresh >> there & 1) == 1 && queued < TOWNS) {
                        row[there] = row[here] + 1;
                        queue[queued] = there;
                        queued++;
                    }
                }
            }
        }
    }

    /**
     * The shortest way from one PAPER to another. Each GATE has a letter of its own, so who has a
     * stamp struck out stands again where it was stamped, with the PAPER of then: such a detour
     * never shortens a way. So the watched letters of a shortest way are settled (those that strike
     * out what the PAPERS don't share, then those that stamp the rest), and only UNWATCHED GATES,
     * its lanes, lie between them.
     */
    private static final class Route {
        private final Land land;
        private final Distances lanes = new Distances();
        private final int[] needs = new int[2 * ITEMS];
        private int size;
        private final long[] ways = new long[TOWNS];
        private final long[] waysThen = new long[TOWNS];

        Route(Land land) {
            this.land = land;
        }

        void plan(Paper held, Paper wanted) {
            lanes.measure(land, land.openLanes());
            size = 0;
            int alike = held.alike(wanted);
            for (int i = held.size() - 1; i >= alike; i--) {
                need(held.at(i) ^ 1);
            }
            for (int i = alike; i < wanted.size(); i++) {
                need(wanted.at(i));
            }
        }

        private void need(int letter) {
            if (size < 2 * ITEMS) {
                needs[size] = letter;
                size++;
            }
        }

        private int needAt(int i) {
            return i >= 0 && i < size ? needs[i] : NONE;
        }

        /** Where the lanes ahead of the i-th letter that is needed lead; behind the last one, to the end. */
        private int goal(int i, int to) {
            return i < size ? land.from(needAt(i)) : to;
        }

        /** Where the lanes ahead of the i-th letter that is needed begin. */
        private int origin(int i, int from) {
            return i == 0 ? from : land.to(needAt(i - 1));
        }

        int gatesBetween(int from, int to) {
            int gates = size;
            for (int i = 0; i <= size; i++) {
                int apart = lanes.between(origin(i, from), goal(i, to));
                if (apart == NONE || i < size && !land.isOpen(needAt(i))) {
                    return NONE;
                }
                gates += apart;
            }
            return gates;
        }

        /** How many shortest ways there are, where there is one. */
        long ways(int from, int to) {
            long product = 1;
            for (int i = 0; i <= size; i++) {
                product *= laneWays(origin(i, from), goal(i, to));
            }
            return product;
        }

        private long laneWays(int start, int end) {
            Arrays.fill(ways, 0);
            if (!isTown(start) || !isTown(end)) {
                return 0;
            }
            ways[start] = 1;
            for (int left = lanes.between(start, end); left > 0; left--) {
                stepNearer(end, left);
            }
            return ways[end];
        }

        private void stepNearer(int end, int left) {
            Arrays.fill(waysThen, 0);
            for (int letter = 0; letter < land.letters(); letter++) {
                int here = land.from(letter), there = land.to(letter);
                if (isLane(letter) && lanes.between(here, end) == left && lanes.between(there, end) == left - 1) {
                    waysThen[there] += ways[here];
                }
            }
            System.arraycopy(waysThen, 0, ways, 0, TOWNS);
        }

        private boolean isLane(int letter) {
            return land.isOpen(letter) && !land.isWatched(letter);
        }

        /** The i-th letter of the least shortest way, where there is one that is so long. */
        int leastLetter(int from, int to, int i) {
            int left = i;
            for (int k = 0; k <= size; k++) {
                int start = origin(k, from), end = goal(k, to);
                int apart = lanes.between(start, end);
                if (left < apart) {
                    return leastLaneLetter(start, end, left);
                }
                if (left == apart) {
                    return needAt(k);
                }
                left -= apart + 1;
            }
            return NONE;
        }

        private int leastLaneLetter(int start, int end, int i) {
            int here = start;
            int letter = NONE;
            for (int k = 0; k <= i; k++) {
                letter = leastNearer(here, end);
                here = land.to(letter);
            }
            return letter;
        }

        private int leastNearer(int here, int end) {
            int nearer = lanes.between(here, end) - 1;
            // The bytes of great letters are below those of small ones.
            for (int great = 1; great >= 0; great--) {
                for (int letter = great; letter < land.letters(); letter += 2) {
                    if (isLane(letter) && land.from(letter) == here && lanes.between(land.to(letter), end) == nearer) {
                        return letter;
                    }
                }
            }
            return NONE;
        }

        /** TOWNS from which the letters that are needed can be gone through, as bits. */
        int starts() {
            if (size == 0) {
                return ALL_TOWNS;
            }
            return isChained() ? lanes.reachedFrom(land.from(needAt(0))) : 0;
        }

        /** TOWNS to which they lead then, as bits. */
        int ends() {
            if (size == 0) {
                return ALL_TOWNS;
            }
            return isChained() ? lanes.reachedFrom(land.to(needAt(size - 1))) : 0;
        }

        private boolean isChained() {
            return gatesBetween(land.from(needAt(0)), land.to(needAt(size - 1))) != NONE;
        }
    }

    /**
     * The fewest GATES from a home with so many stamps at most. A PAPER that came from a clean one
     * has as many stamps as the WATCHED GATES of its way, detours left aside (see Route), and who
     * turns about has them struck out again: so WATCHED GATES on the way out are all that counts.
     */
    private static final class Errands {
        private static final int UNREACHED = 1000;
        private final Land land;
        private final Distances lanes = new Distances();
        private final int[] steps = new int[TOWNS];
        private final int[] stepsBefore = new int[TOWNS];

        Errands(Land land) {
            this.land = land;
        }

        int fullest(int home, int towns) {
            setOut(home);
            for (int stamps = 0; stamps <= land.roomTold(); stamps++) {
                if ((reached() & towns) == towns) {
                    return stamps;
                }
                if (!allowOneMore()) {
                    return NONE;
                }
            }
            return NONE;
        }

        int homely(int home) {
            setOut(home);
            boolean grew = true;
            for (int stamps = 0; stamps < land.roomTold() && grew; stamps++) {
                grew = allowOneMore();
            }
            return reached();
        }

        int stepsTo(int towns) {
            int sum = 0;
            for (int town = 0; town < TOWNS; town++) {
                if ((towns >> town & 1) == 1) {
                    sum += steps[town];
                }
            }
            return sum;
        }

        private int reached() {
            int towns = 0;
            for (int town = 0; town < TOWNS; town++) {
                if (steps[town] < UNREACHED) {
                    towns |= 1 << town;
                }
            }
            return towns;
        }

        private void setOut(int home) {
            lanes.measure(land, land.openLanes());
            for (int town = 0; town < TOWNS; town++) {
                int apart = lanes.between(home, town);
                steps[town] = apart == NONE ? UNREACHED : apart;
            }
        }

        /** Whether a TOWN is nearer by one stamp more; where none is, no further stamp helps. */
        private boolean allowOneMore() {
            System.arraycopy(steps, 0, stepsBefore, 0, TOWNS);
            boolean nearer = false;
            for (int letter = 0; letter < land.letters(); letter++) {
                if (land.isOpen(letter) && land.isWatched(letter)) {
                    int there = land.to(letter);
                    nearer |= comeNearer(there, stepsBefore[land.from(letter)] + 1);
                }
            }
            return nearer;
        }

        private boolean comeNearer(int town, int gates) {
            if (gates >= steps[town]) {
                return false;
            }
            for (int there = 0; there < TOWNS; there++) {
                int apart = lanes.between(town, there);
                if (apart != NONE) {
                    steps[there] = Math.min(steps[there], gates + apart);
                }
            }
            return true;
        }
    }

    /**
     * Counts ways of a length. A way to a PAPER is parted where its stamps are stamped for good:
     * between two of them it takes UNWATCHED GATES and rounds: a round goes through a WATCHED GATE
     * and, when its stamp is struck out again, ends in the TOWN where it began, on the same PAPER.
     */
    private static final class Walks {
        private static final int TIMES = MOST_STEPS + 1;
        private final Land land;
        private final Distances lanes = new Distances();
        /** By TOWN: those that lanes join with it, as bits. */
        private final int[] joined = new int[TOWNS];
        /** By letter: ways that begin behind it and never strike it out; by length and TOWN. */
        private final long[][] behind = new long[LETTERS][TIMES * TOWNS];
        /** All rounds from a TOWN, by length and TOWN. */
        private final long[] rounds = new long[TIMES * TOWNS];
        /** Ways from the beginning to the stamps so far, by length and TOWN. */
        private final long[] sofar = new long[TIMES * TOWNS];
        private final long[] entered = new long[TIMES];

        Walks(Land land) {
            this.land = land;
        }

        long number(int from, Paper paper, int to, int n) {
            if (paper.size() > n || n >= TIMES || !isTown(from) || !isTown(to)) {
                return 0;
            }
            joinTowns();
            countRounds(n);
            Arrays.fill(entered, 0);
            entered[0] = 1;
            countFrom(from, NONE, n);
            for (int i = 0; i < paper.size(); i++) {
                int letter = paper.at(i);
                if (!land.isOpen(letter)) {
                    return 0;
                }
                stampForGood(letter, n);
                countFrom(land.to(letter), letter, n);
            }
            return sofar[n * TOWNS + to];
        }

        private void joinTowns() {
            lanes.measure(land, land.openLanes());
            for (int town = 0; town < TOWNS; town++) {
                joined[town] = lanes.reachedFrom(town);
            }
        }

        private void stampForGood(int letter, int n) {
            int town = land.from(letter);
            entered[0] = 0;
            for (int length = 1; length <= n; length++) {
                entered[length] = sofar[(length - 1) * TOWNS + town];
            }
        }

        private void countFrom(int town, int last, int n) {
            Arrays.fill(sofar, 0);
            for (int length = 0; length <= n; length++) {
                sofar[length * TOWNS + town] = entered[length];
                lengthen(sofar, town, last, length);
            }
        }

        /** Rounds are made of what is behind their first letter, and that of shorter rounds. */
        private void countRounds(int n) {
            Arrays.fill(rounds, 0);
            for (int letter = 0; letter < land.letters(); letter++) {
                Arrays.fill(behind[letter], 0);
                behind[letter][land.to(letter)] = 1;
            }
            for (int length = 0; length + 2 <= n; length++) {
                for (int letter = 0; letter < land.letters(); letter++) {
                    if (land.isOpen(letter) && land.isWatched(letter)) {
                        int there = land.to(letter);
                        lengthen(behind[letter], there, letter, length);
                        rounds[(length + 2) * TOWNS + land.from(letter)] += behind[letter][length * TOWNS + there];
                    }
                }
            }
        }

        /**
         * Adds the ways of this length that are shorter ones and a GATE, or shorter ones and a round.
         * Neither leads out of the TOWNS that lanes join with the one where the ways began.
         */
        private void lengthen(long[] row, int begun, int last, int length) {
            if (length > 0) {
                goOnByLanes(row, length);
            }
            for (int town = 0; town < TOWNS; town++) {
                if ((joined[begun] >> town & 1) == 1) {
                    row[length * TOWNS + town] += behindRounds(row, last, length, town);
                }
            }
        }

        private void goOnByLanes(long[] row, int length) {
            int open = land.openLanes();
            int now = length * TOWNS, before = now - TOWNS;
            for (int gate = 0; gate < land.gatesTold() && open != 0; gate++) {
                if ((open >> gate & 1) == 1) {
                    int one = land.from(2 * gate), two = land.to(2 * gate);
                    row[now + two] += row[before + one];
                    row[now + one] += row[before + two];
                }
            }
        }

        private long behindRounds(long[] row, int last, int length, int town) {
            // Back through the last stamp's gate is no round: it strikes out that stamp.
            boolean strikes = last != NONE && land.to(last) == town;
            int back = strikes ? land.from(last) : NONE;
            long sum = 0;
            for (int round = 2; round <= length; round++) {
                long before = row[(length - round) * TOWNS + town];
                if (before != 0) {
                    long barred = strikes ? behind[last ^ 1][(round - 2) * TOWNS + back] : 0;
                    sum += before * (rounds[round * TOWNS + town] - barred);
                }
            }
            return sum;
        }
    }

    /** PAPERS that are LISTED, of each what a clerk may look at. */
    private static final class Listing {
        private final int[] stamps = new int[MOST_LISTED * PLACES];
        private final int[] sizes = new int[MOST_LISTED];
        private final int[] good = new int[MOST_LISTED];
        private final int[] unlike = new int[MOST_LISTED * MOST_LISTED];
        private int size;

        boolean isFull() {
            return size >= MOST_LISTED;
        }

        int size() {
            return size;
        }

        void append(Paper paper, int goodness) {
            if (isFull()) {
                return;
            }
            for (int place = 0; place < PLACES; place++) {
                stamps[size * PLACES + place] = paper.at(place);
            }
            sizes[size] = paper.size();
            good[size] = goodness;
            size++;
        }

        void dropLast() {
            size = Math.max(0, size - 1);
        }

        int goodOnes() {
            int sum = 0;
            for (int k = 0; k < size; k++) {
                sum += good[k];
            }
            return sum;
        }

        int stampsOf(int k) {
            return k >= 0 && k < size ? sizes[k] : 0;
        }

        int stampAt(int k, int place) {
            boolean there = k >= 0 && k < size && place >= 0 && place < PLACES;
            return there ? stamps[k * PLACES + place] : NONE;
        }

        boolean letsBy(Paper paper, int places) {
            for (int k = 0; k < size; k++) {
                if (good[k] == 1 && (unlikeAt(paper, k) & places) == 0) {
                    return true;
                }
            }
            return false;
        }

        int slipping(int places) {
            int slipping = 0;
            for (int k = 0; k < size; k++) {
                if (good[k] == 0 && isLetBy(k, places)) {
                    slipping++;
                }
            }
            return slipping;
        }

        /**
         * Nobody SLIPS by PLACES that have one of the unlike ones of each bad and good pair; a PLACE
         * that is unlike in no pair is of no use, so none needs more than all that are in some.
         */
        int fewestPlaces() {
            int pairs = gatherUnlike();
            int useful = 0;
            for (int pair = 0; pair < pairs; pair++) {
                useful |= unlike[pair];
            }
            int best = NONE, bestCount = PLACES + 1;
            for (int places = 0; places <= useful; places++) {
                int count = Integer.bitCount(places);
                if (count < bestCount && partsAll(places, pairs)) {
                    best = places;
                    bestCount = count;
                }
            }
            return best;
        }

        private int gatherUnlike() {
            int pairs = 0;
            for (int bad = 0; bad < size; bad++) {
                for (int k = 0; k < size; k++) {
                    if (good[bad] == 0 && good[k] == 1) {
                        unlike[pairs] = unlikeOf(bad, k);
                        pairs++;
                    }
                }
            }
            return pairs;
        }

        private boolean partsAll(int places, int pairs) {
            for (int pair = 0; pair < pairs; pair++) {
                if ((unlike[pair] & places) == 0) {
                    return false;
                }
            }
            return true;
        }

        private boolean isLetBy(int bad, int places) {
            for (int k = 0; k < size; k++) {
                if (good[k] == 1 && (unlikeOf(bad, k) & places) == 0) {
                    return true;
                }
            }
            return false;
        }

        /** The PLACES at which two that are LISTED differ, as bits. */
        private int unlikeOf(int one, int two) {
            int places = 0;
            for (int place = 0; place < PLACES; place++) {
                if (stampAt(one, place) != stampAt(two, place)) {
                    places |= 1 << place;
                }
            }
            return places;
        }

        private int unlikeAt(Paper paper, int k) {
            int places = 0;
            for (int place = 0; place < PLACES; place++) {
                if (paper.at(place) != stampAt(k, place)) {
                    places |= 1 << place;
                }
            }
            return places;
        }
    }

    /** The SHEETS and the latest FINDING. */
    private static final class Sheets {
        private final int[][] items = new int[SHEETS][ITEMS];
        private final int[] sizes = new int[SHEETS];
        private final int[] forms = new int[SHEETS];
        private int latest;

        Sheets() {
            Arrays.fill(forms, NONE);
        }

        int find(int finding) {
            latest = finding;
            return -10 - finding;
        }

        int latestFinding() {
            return latest;
        }

        boolean isLost(int s) {
            return forms[s] == NONE;
        }

        int size(int s) {
            return sizes[s];
        }

        void make(int s, int form, int n) {
            forms[s] = form;
            sizes[s] = n;
            Arrays.fill(items[s], 0);
        }

        void drop(int s) {
            forms[s] = NONE;
            sizes[s] = 0;
        }

        int findingAt(int s, int form, int i) {
            if (isLost(s)) {
                return NULL;
            }
            if (forms[s] != form) {
                return CAST;
            }
            return i < 0 || i >= sizes[s] ? INDEX : NO_FINDING;
        }

        int findingOfCopy(int s, int i, int t, int j, int n) {
            if (isLost(s) || isLost(t)) {
                return NULL;
            }
            if (forms[s] != forms[t]) {
                return STORE;
            }
            return hasRun(s, i, n) && hasRun(t, j, n) ? NO_FINDING : INDEX;
        }

        private boolean hasRun(int s, int i, int n) {
            // The difference cannot wrap, as i + n could.
            return i >= 0 && n >= 0 && i <= sizes[s] && n <= sizes[s] - i;
        }

        int item(int s, int i) {
            return i >= 0 && i < sizes[s] ? items[s][i] : 0;
        }

        void put(int s, int i, int v) {
            if (i < 0 || i >= sizes[s]) {
                return;
            }
            if (forms[s] == BYTES) {
                items[s][i] = (byte) v;
            } else if (forms[s] == SHORTS) {
                items[s][i] = (short) v;
            } else {
                items[s][i] = v;
            }
        }

        void move(int s, int i, int t, int j, int n) {
            if (hasRun(s, i, n) && hasRun(t, j, n)) {
                System.arraycopy(items[s], i, items[t], j, n);
            }
        }
    }
}
