/**
 * A net of sentences: leaves and givens at the bottom, claims held up by steps above them. It tells
 * what is shown, what leans on what, and the least and most odds of a claim. The capitals in the
 * comments are the terms of the project's document.
 */
public final class SafeNet {
    public static final int NONE = -1000000, BAD = -1000001, STATE = -1000002, FULL = -1000003;

    private static final int FOUND = -1000010;
    private static final int MISSING = 1, NO_PLACE = 2, NOT_THAT_KIND = 3, TOO_SMALL = 4, TWO_LANES = 5;
    private static final int FAULTED = -1000100;

    private static final int NODES = 20, STEPS = 16, PARTS = 6, DOUBTS = 3;
    private static final int LAST_HAND = 9, LAST_DAY = 9999, WHOLE = 100;

    private static final int IS_LEAF = 0, IS_GIVEN = 1, IS_CLAIM = 2;
    private static final int ALL = 0, ANY = 1, MOST = 2, LIKE = 3;
    private static final int KIND_NODE = 0, KIND_LEAF = 1, KIND_GIVEN = 2, KIND_CLAIM = 3, KIND_TOP = 4, KIND_LOST = 5;

    private final Sheets sheets;
    private final Text text;
    private final Net net;
    private final FellingSets fellingSets;
    private final Weights weights;
    private final Asks asks;
    private int latestFault;
    private int latestFinding;

    public SafeNet() {
        sheets = new Sheets();
        text = new Text();
        net = new Net();
        fellingSets = new FellingSets();
        weights = new Weights();
        asks = new Asks();
        latestFault = 0;
        latestFinding = 0;
    }

    // ---- sheets

    public int sheet(int sheet, int lane, int n) {
        if (!sheets.isNumber(sheet) || !isWithin(lane, 0, Sheets.INTS) || n > Sheets.ITEMS) return BAD;
        if (n < 0) return found(TOO_SMALL);
        sheets.lay(sheet, lane, n);
        return unfound(n);
    }

    public int set(int sheet, int i, int v) {
        if (!sheets.isNumber(sheet)) return BAD;
        if (sheets.isMissing(sheet)) return found(MISSING);
        if (!sheets.hasPlaces(sheet, i, 1)) return found(NO_PLACE);
        return unfound(sheets.put(sheet, i, v));
    }

    public int copy(int a, int i, int b, int j, int n) {
        if (!sheets.isNumber(a) || !sheets.isNumber(b)) return BAD;
        if (sheets.isMissing(a) || sheets.isMissing(b)) return found(MISSING);
        if (!sheets.areOfOneLane(a, b)) return found(TWO_LANES);
        if (!sheets.hasPlaces(a, i, n) || !sheets.hasPlaces(b, j, n)) return found(NO_PLACE);
        sheets.move(a, i, b, j, n);
        return unfound(n);
    }

    public int drop(int sheet) {
        if (!sheets.isNumber(sheet)) return BAD;
        if (sheets.isMissing(sheet)) return found(MISSING);
        return unfound(sheets.takeAway(sheet));
    }

    // ---- the net

    public int feed(long w, int n) {
        if (!isWithin(n, 1, 8)) return BAD;
        if (!text.hasRoom(n)) return FULL;
        return text.append(w, n);
    }

    public int net() {
        int nodesAhead = net.nodes, stepsAhead = net.steps;
        int fault = text.read(net);
        if (fault == 0) return net.nodes;
        net.cutBack(nodesAhead, stepsAhead);
        latestFault = fault;
        return FAULTED - text.place;
    }

    public int fault() {
        return latestFault;
    }

    public int node(int node, int what) {
        if (!net.hasNode(node)) return BAD;
        boolean claim = net.isClaim(node);
        switch (what) {
            case 0: return net.sort[node];
            case 1: return claim ? NONE : net.hand[node];
            case 2: return claim ? NONE : net.lookedAt[node];
            case 3: return claim ? NONE : net.goodFor[node];
            case 4: return net.fallen[node];
            case 5: return bitAt(net.shownNow(), node);
            default: return BAD;
        }
    }

    public int step(int step, int what) {
        if (!net.hasStep(step)) return BAD;
        switch (what) {
            case 0: return net.form[step];
            case 1: return net.held[step];
            case 2: return net.partCount[step];
            case 3: return net.doubtsOf(step);
            case 4: return net.open[step];
            case 5: return net.isBorneUp(step, net.shownNow()) ? 1 : 0;
            default: return BAD;
        }
    }

    public int part(int step, int i) {
        if (!net.hasStep(step) || i < 0) return BAD;
        return i < net.partCount[step] ? net.partAt(step, i) : NONE;
    }

    public int doubt(int step, int k, int how) {
        if (!net.hasStep(step) || !isWithin(k, 0, net.doubtsOf(step) - 1)) return BAD;
        if (!isWithin(how, Net.OPEN, Net.BORNE + LAST_HAND)) return BAD;
        return net.tellDoubt(step, k, how);
    }

    public int borne(int hand) {
        if (!isWithin(hand, 0, LAST_HAND)) return BAD;
        return net.doubtsToldAs(Net.BORNE + hand);
    }

    public int looked(int sheet, int i, int n) {
        if (!sheets.isNumber(sheet) || !isWithin(n, 1, 8)) return BAD;
        if (sheets.isMissing(sheet)) return found(MISSING);
        if (!sheets.hasPlaces(sheet, i, 3 * n)) return found(NO_PLACE);
        for (int k = 0; k < n; k++) {
            if (!isLook(sheet, i + 3 * k)) return BAD;
        }
        for (int k = 0; k < n; k++) tellLook(sheet, i + 3 * k);
        return unfound(n);
    }

    public int fall(int node, int is) {
        if (!net.isGround(node) || !isWithin(is, 0, 1)) return BAD;
        int was = net.fallen[node];
        net.fallen[node] = is;
        return was;
    }

    public int day(int day) {
        if (!isWithin(day, 0, LAST_DAY)) return BAD;
        int was = net.today;
        net.today = day;
        return was;
    }

    // ---- what stands

    public int shown(int what) {
        switch (what) {
            case 0: return net.shownNow() & net.claims();
            case 1: return net.roundsNow();
            case 2: return net.circles();
            default: return BAD;
        }
    }

    public int leaning(int node) {
        if (!net.hasNode(node)) return BAD;
        int bit = 1 << node;
        int without = net.spread(net.standing() & ~bit, bit);
        return net.shownNow() & net.claims() & ~without & ~bit;
    }

    public int felling(int claim, int i) {
        if (!net.isClaim(claim) || i < -1) return BAD;
        if (bitAt(net.shownNow(), claim) == 0) return STATE;
        return fellingSets.seek(net, claim, i);
    }

    public int hand() {
        int standing = net.standing();
        int shownClaims = net.shownNow() & net.claims();
        int best = NONE, most = 0;
        for (int hand = 0; hand <= LAST_HAND; hand++) {
            int left = net.spread(standing & ~net.groundsOf(hand), 0);
            int felled = Integer.bitCount(shownClaims & ~left);
            if (felled > most) {
                most = felled;
                best = hand;
            }
        }
        return best;
    }

    // ---- odds

    public int weigh(int node, int low, int high) {
        if (!net.isGround(node) || !isSpan(low, high)) return BAD;
        if (weights.has(node)) return STATE;
        if (weights.isFull()) return FULL;
        return weights.add(node, low, high);
    }

    public int pair(int a, int b, int low, int high) {
        if (!weights.isPlace(a) || !weights.isPlace(b) || a == b || !isSpan(low, high)) return BAD;
        weights.tellPair(a, b, low, high);
        return 1;
    }

    public int unweigh() {
        return weights.clear();
    }

    public int agree() {
        return weights.findLeast(0) ? 1 : 0;
    }

    public int odds(int claim, int what) {
        if (!net.isClaim(claim) || !isWithin(what, 0, 3)) return BAD;
        int worlds = weights.worldsShowing(net, claim);
        boolean agreed = what < 2 ? weights.findLeast(worlds) : weights.findMost(worlds);
        if (!agreed) return STATE;
        return (int) (what % 2 == 0 ? weights.above : weights.below);
    }

    public int raise(int claim) {
        if (!net.isClaim(claim)) return BAD;
        int worlds = weights.worldsShowing(net, claim);
        if (!weights.findLeast(worlds)) return STATE;
        int best = weights.bestRaise(worlds);
        return best < 0 ? NONE : weights.node[best];
    }

    // ---- asked

    public int kind(int node) {
        if (!net.hasNode(node)) return BAD;
        return net.kindOf(node);
    }

    public int as(int node, int kind) {
        if (!net.hasNode(node) || !isWithin(kind, KIND_NODE, KIND_LOST)) return BAD;
        if (!net.isTakenAs(node, kind)) return found(NOT_THAT_KIND);
        return unfound(node);
    }

    public int ask(int node, int what) {
        if (!net.hasNode(node) || !isWithin(what, 0, 1)) return BAD;
        asks.start(net.shownNow());
        return what == 0 ? asks.size(net, node) : asks.mark(net, node);
    }

    public int trace(int i) {
        return isWithin(i, 0, asks.traced - 1) ? asks.trace[i] : NONE;
    }

    public int count(int what) {
        switch (what) {
            case 0: return sheets.laid();
            case 1: return net.nodes;
            case 2: return Integer.bitCount(net.claims());
            case 3: return net.steps;
            case 4: return net.doubtsToldAs(Net.OPEN);
            case 5: return Integer.bitCount(net.grounds() & ~net.standing());
            case 6: return weights.count;
            case 7: return text.length;
            default: return BAD;
        }
    }

    public int status() {
        return latestFinding;
    }

    // ---- within

    private int found(int finding) {
        latestFinding = finding;
        return FOUND - finding;
    }

    private int unfound(int answer) {
        latestFinding = 0;
        return answer;
    }

    private boolean isLook(int sheet, int i) {
        return net.isGround(sheets.itemAt(sheet, i))
            && isWithin(sheets.itemAt(sheet, i + 1), 0, LAST_DAY)
            && isWithin(sheets.itemAt(sheet, i + 2), 0, LAST_DAY);
    }

    private void tellLook(int sheet, int i) {
        int node = sheets.itemAt(sheet, i);
        if (!net.isGround(node)) return;
        net.lookedAt[node] = sheets.itemAt(sheet, i + 1);
        net.goodFor[node] = sheets.itemAt(sheet, i + 2);
    }

    private static boolean isWithin(int value, int low, int high) {
        return value >= low && value <= high;
    }

    private static boolean isSpan(int low, int high) {
        return low >= 0 && low <= high && high <= WHOLE;
    }

    private static int bitAt(int bits, int i) {
        return bits >> i & 1;
    }

    /** All SHEETS in one row that is made once, so that laying a SHEET makes nothing. */
    private static final class Sheets {
        private static final int SHEETS = 8, ITEMS = 40, GONE = -1;
        private static final int BYTES = 0, SHORTS = 1, INTS = 2;

        private final int[] items = new int[SHEETS * ITEMS];
        private final int[] lane = new int[SHEETS];
        private final int[] size = new int[SHEETS];

        private Sheets() {
            for (int s = 0; s < SHEETS; s++) size[s] = GONE;
        }

        private boolean isNumber(int sheet) {
            return sheet >= 0 && sheet < SHEETS;
        }

        private boolean isMissing(int sheet) {
            return size[sheet] == GONE;
        }

        private boolean areOfOneLane(int a, int b) {
            return lane[a] == lane[b];
        }

        private boolean hasPlaces(int sheet, int i, int n) {
            return i >= 0 && n >= 0 && n <= size[sheet] - i;
        }

        private int laid() {
            int laid = 0;
            for (int s = 0; s < SHEETS; s++) {
                if (size[s] != GONE) laid++;
            }
            return laid;
        }

        private void lay(int sheet, int newLane, int n) {
            lane[sheet] = newLane;
            size[sheet] = n;
            for (int i = 0; i < ITEMS; i++) items[sheet * ITEMS + i] = 0;
        }

        private int takeAway(int sheet) {
            int had = size[sheet];
            size[sheet] = GONE;
            return had;
        }

        private int itemAt(int sheet, int i) {
            return items[sheet * ITEMS + i];
        }

        private int put(int sheet, int i, int v) {
            int kept = v;
            if (lane[sheet] == BYTES) kept = (byte) v;
            if (lane[sheet] == SHORTS) kept = (short) v;
            items[sheet * ITEMS + i] = kept;
            return kept;
        }

        private void move(int a, int i, int b, int j, int n) {
            System.arraycopy(items, a * ITEMS + i, items, b * ITEMS + j, n);
        }
    }

    /** THE TAPE, and the reading of it. The methods named read.. answer the number of a FAULT at place, or 0. */
    private static final class Text {
        private static final int ROOM = 400, FIGURES = 4;
        private static final int END = 0, NAME = 1, NUMBER = 2, SIGN = 3, BLANK = 4, NO_TOKEN = 5;
        private static final int CANNOT_STAND = 1, NOT_AS_TOLD = 2, NO_ROOM = 3;

        private final byte[] bytes = new byte[ROOM];
        private int length;
        /** The TOKEN looked at: its first byte, the byte behind it, what it is, and its worth as a NUMBER. */
        private int place, behind, token, worth;

        private boolean hasRoom(int n) {
            return n <= ROOM - length;
        }

        private int append(long w, int n) {
            for (int i = n - 1; i >= 0 && length < ROOM; i--) {
                bytes[length] = (byte) (w >> 8 * i);
                length++;
            }
            return length;
        }

        private int read(Net net) {
            behind = 0;
            take();
            int fault = 0;
            for (int i = 0; i < ROOM && token != END && fault == 0; i++) fault = readSentence(net);
            length = 0;
            return fault;
        }

        private int readSentence(Net net) {
            if (isWord("leaf")) return readGround(net, IS_LEAF);
            if (isWord("given")) return readGround(net, IS_GIVEN);
            if (isWord("claim")) return readClaim(net);
            if (isWord("step")) return readStep(net);
            return CANNOT_STAND;
        }

        private int readGround(Net net, int sort) {
            if (net.nodes >= NODES) return NO_ROOM;
            take();
            if (token != NUMBER) return CANNOT_STAND;
            if (worth > LAST_HAND) return NOT_AS_TOLD;
            net.addNode(sort, worth);
            take();
            return readSign();
        }

        private int readClaim(Net net) {
            if (net.nodes >= NODES) return NO_ROOM;
            net.addNode(IS_CLAIM, 0);
            take();
            return readSign();
        }

        private int readStep(Net net) {
            if (net.steps >= STEPS) return NO_ROOM;
            take();
            int form = formTold();
            if (form < 0) return CANNOT_STAND;
            take();
            if (token != NUMBER) return CANNOT_STAND;
            if (!net.isClaim(worth)) return NOT_AS_TOLD;
            int step = net.addStep(form, worth);
            take();
            int fault = readPart(net, step);
            for (int i = 0; i < PARTS && fault == 0 && token == NUMBER; i++) fault = readPart(net, step);
            return fault != 0 ? fault : readSign();
        }

        private int readPart(Net net, int step) {
            if (token != NUMBER) return CANNOT_STAND;
            if (!net.hasNode(worth) || net.hasPart(step, worth)) return NOT_AS_TOLD;
            if (net.partCount[step] >= PARTS) return NO_ROOM;
            net.addPart(step, worth);
            take();
            return 0;
        }

        private int readSign() {
            if (token != SIGN) return CANNOT_STAND;
            take();
            return 0;
        }

        private int formTold() {
            if (isWord("all")) return ALL;
            if (isWord("any")) return ANY;
            if (isWord("most")) return MOST;
            return isWord("like") ? LIKE : -1;
        }

        /** Goes on to the next TOKEN. */
        private void take() {
            place = behind;
            while (place < length && sortAt(place) == BLANK) place++;
            token = sortAt(place);
            behind = Math.min(place + 1, length);
            boolean goesOn = token == NAME || token == NUMBER;
            while (goesOn && behind < length && sortAt(behind) == token) behind++;
            if (token == NUMBER) takeWorth();
        }

        private void takeWorth() {
            worth = 0;
            for (int i = place; i < behind && i < place + FIGURES; i++) worth = 10 * worth + bytes[i] - '0';
            if (behind - place > FIGURES) token = NO_TOKEN;
        }

        /** What a TOKEN that begins with this byte is. */
        private int sortAt(int i) {
            if (i < 0 || i >= length) return END;
            byte b = bytes[i];
            if (b == 32 || b == 10) return BLANK;
            if (b >= 'a' && b <= 'z') return NAME;
            if (b >= '0' && b <= '9') return NUMBER;
            return b == ';' ? SIGN : NO_TOKEN;
        }

        private boolean isWord(String word) {
            if (token != NAME || behind - place != word.length()) return false;
            for (int i = 0; i < word.length(); i++) {
                if (bytes[place + i] != word.charAt(i)) return false;
            }
            return true;
        }
    }

    /** NODES and STEPS, and what is SHOWN of them. A set of NODES is bits of an int. */
    private static final class Net {
        private static final int OPEN = 0, BORNE = 2;
        private static final int[] DOUBTS_BY_FORM = {2, 1, 2, 3};
        /** By KIND: bits of the KINDS that it is, itself and those above it. */
        private static final int[] KINDS_ABOVE = {0b000001, 0b000011, 0b000111, 0b001001, 0b011001, 0b100011};

        private int nodes, steps, today;
        private final int[] sort = new int[NODES], hand = new int[NODES];
        private final int[] lookedAt = new int[NODES], goodFor = new int[NODES], fallen = new int[NODES];
        private final int[] form = new int[STEPS], held = new int[STEPS];
        private final int[] partCount = new int[STEPS], partBits = new int[STEPS], parts = new int[STEPS * PARTS];
        private final int[] open = new int[STEPS], doubts = new int[STEPS * DOUBTS];
        private final int[] reached = new int[NODES];

        private boolean hasNode(int node) {
            return node >= 0 && node < nodes;
        }

        private boolean isClaim(int node) {
            return hasNode(node) && sort[node] == IS_CLAIM;
        }

        /** Whether it is a leaf or given. */
        private boolean isGround(int node) {
            return hasNode(node) && sort[node] != IS_CLAIM;
        }

        private boolean hasStep(int step) {
            return step >= 0 && step < steps;
        }

        private boolean hasPart(int step, int node) {
            return bitAt(partBits[step], node) == 1;
        }

        private int partAt(int step, int i) {
            return parts[step * PARTS + i];
        }

        private int doubtsOf(int step) {
            return DOUBTS_BY_FORM[form[step]];
        }

        private void addNode(int newSort, int newHand) {
            if (nodes >= NODES) return;
            sort[nodes] = newSort;
            hand[nodes] = newHand;
            lookedAt[nodes] = 0;
            goodFor[nodes] = LAST_DAY;
            fallen[nodes] = 0;
            nodes++;
        }

        /** The new STEP's number; it has no PARTS yet. The caller has seen to it that there is room. */
        private int addStep(int newForm, int claim) {
            int step = Math.min(steps, STEPS - 1);
            form[step] = newForm;
            held[step] = claim;
            partCount[step] = 0;
            partBits[step] = 0;
            open[step] = DOUBTS_BY_FORM[newForm];
            for (int k = 0; k < DOUBTS; k++) doubts[step * DOUBTS + k] = OPEN;
            steps = step + 1;
            return step;
        }

        private void addPart(int step, int node) {
            if (partCount[step] >= PARTS) return;
            parts[step * PARTS + partCount[step]] = node;
            partBits[step] |= 1 << node;
            partCount[step]++;
        }

        /** Forgets what a text with a FAULT has told. */
        private void cutBack(int nodesLeft, int stepsLeft) {
            nodes = nodesLeft;
            steps = stepsLeft;
        }

        private int tellDoubt(int step, int k, int how) {
            int was = doubts[step * DOUBTS + k];
            if (was == OPEN) open[step]--;
            if (how == OPEN) open[step]++;
            doubts[step * DOUBTS + k] = how;
            return was;
        }

        private int doubtsToldAs(int how) {
            int told = 0;
            for (int s = 0; s < steps; s++) {
                for (int k = 0; k < doubtsOf(s); k++) {
                    if (doubts[s * DOUBTS + k] == how) told++;
                }
            }
            return told;
        }

        private boolean stands(int ground) {
            return fallen[ground] == 0 && today <= lookedAt[ground] + goodFor[ground];
        }

        private int claims() {
            int bits = 0;
            for (int n = 0; n < nodes; n++) {
                if (sort[n] == IS_CLAIM) bits |= 1 << n;
            }
            return bits;
        }

        private int grounds() {
            return (1 << nodes) - 1 & ~claims();
        }

        private int groundsOf(int ofHand) {
            int bits = 0;
            for (int n = 0; n < nodes; n++) {
                if (sort[n] != IS_CLAIM && hand[n] == ofHand) bits |= 1 << n;
            }
            return bits;
        }

        private int standing() {
            int bits = 0;
            for (int n = 0; n < nodes; n++) {
                if (sort[n] != IS_CLAIM && stands(n)) bits |= 1 << n;
            }
            return bits;
        }

        private boolean isBorneUp(int step, int by) {
            int bearing = partBits[step] & by;
            switch (form[step]) {
                case ALL: return bearing == partBits[step];
                case ANY: return bearing != 0;
                case MOST: return 2 * Integer.bitCount(bearing) > partCount[step];
                default: return (by >> parts[step * PARTS] & 1) == 1;
            }
        }

        /** What is SHOWN after one round more, if no STEP held up the barred claims. */
        private int nextRound(int ahead, int barred) {
            int next = ahead;
            for (int s = 0; s < steps; s++) {
                int bit = 1 << held[s] & ~barred & ~next;
                if (bit != 0 && open[s] == 0 && isBorneUp(s, ahead)) next |= bit;
            }
            return next;
        }

        /** What would be SHOWN, if just these leaves and givens STOOD and no STEP held up the barred claims. */
        private int spread(int grounds, int barred) {
            int ahead = grounds;
            for (int round = 0; round < NODES; round++) {
                int next = nextRound(ahead, barred);
                if (next == ahead) break;
                ahead = next;
            }
            return ahead;
        }

        private int shownNow() {
            return spread(standing(), 0);
        }

        private int roundsNow() {
            int rounds = 0;
            int ahead = standing();
            for (int round = 0; round < NODES; round++) {
                int next = nextRound(ahead, 0);
                if (next == ahead) break;
                ahead = next;
                rounds++;
            }
            return rounds;
        }

        private int circles() {
            for (int n = 0; n < nodes; n++) reached[n] = 0;
            for (int s = 0; s < steps; s++) reached[held[s]] |= partBits[s];
            for (int by = 0; by < nodes; by++) {
                for (int n = 0; n < nodes; n++) {
                    if (bitAt(reached[n], by) == 1) reached[n] |= reached[by];
                }
            }
            int bits = 0;
            for (int n = 0; n < nodes; n++) bits |= reached[n] & 1 << n;
            return bits;
        }

        private int timesPart(int node) {
            int times = 0;
            for (int s = 0; s < steps; s++) times += bitAt(partBits[s], node);
            return times;
        }

        private int timesHeld(int node) {
            int times = 0;
            for (int s = 0; s < steps; s++) {
                if (held[s] == node) times++;
            }
            return times;
        }

        private int kindOf(int node) {
            if (sort[node] == IS_CLAIM) return timesPart(node) == 0 ? KIND_TOP : KIND_CLAIM;
            if (!stands(node)) return KIND_LOST;
            return sort[node] == IS_GIVEN ? KIND_GIVEN : KIND_LEAF;
        }

        private boolean isTakenAs(int node, int kind) {
            return bitAt(KINDS_ABOVE[kindOf(node)], kind) == 1;
        }
    }

    /**
     * The FELLING SETS of one claim, in their order. Fewer leaves never show more, so a set is one just
     * if it fells and holds no lesser set that fells: each set is tried but once.
     */
    private static final class FellingSets {
        /** By NODE: those below it with which it makes a set of two. */
        private final int[] partners = new int[NODES];
        private int claim, standing, wanted, found, answer;

        /** How many there are (i = -1), the i-th, or NONE. */
        private int seek(Net net, int ofClaim, int i) {
            claim = ofClaim;
            standing = net.standing();
            wanted = i;
            found = 0;
            answer = NONE;
            int rest = standing & ~seekOnes(net);
            seekTwos(net, rest);
            seekThrees(net, rest);
            return i < 0 ? found : answer;
        }

        private int seekOnes(Net net) {
            int ones = 0;
            for (int a = 0; a < NODES; a++) {
                if (bitAt(standing, a) == 1 && countIfItFells(net, 1 << a)) ones |= 1 << a;
            }
            return ones;
        }

        private void seekTwos(Net net, int rest) {
            for (int a = 0; a < NODES; a++) {
                partners[a] = 0;
                if (bitAt(rest, a) == 0) continue;
                for (int b = 0; b < a; b++) {
                    if (bitAt(rest, b) == 1 && countIfItFells(net, 1 << a | 1 << b)) partners[a] |= 1 << b;
                }
            }
        }

        private void seekThrees(Net net, int rest) {
            for (int a = 0; a < NODES; a++) {
                if (bitAt(rest, a) == 0) continue;
                int besideA = rest & ~partners[a];
                for (int b = 0; b < a; b++) {
                    if (bitAt(besideA, b) == 0) continue;
                    int besideBoth = besideA & ~partners[b];
                    for (int c = 0; c < b; c++) {
                        if (bitAt(besideBoth, c) == 1) countIfItFells(net, 1 << a | 1 << b | 1 << c);
                    }
                }
            }
        }

        private boolean countIfItFells(Net net, int set) {
            if (bitAt(net.spread(standing & ~set, 0), claim) == 1) return false;
            if (found == wanted) answer = set;
            found++;
            return true;
        }
    }

    /** What is WEIGHED. A set of WORLDS is bits of an int; world w has the i-th STAND by bit i of w. */
    private static final class Weights {
        private static final int ROOM = 3;
        /** By place: the WORLDS in which that one STANDS. */
        private static final int[] WORLDS_WITH = {0b10101010, 0b11001100, 0b11110000};

        private int count;
        private final int[] node = new int[ROOM], low = new int[ROOM], high = new int[ROOM];
        /** By the places of a PAIR added, less one. A PAIR that is not told has the span that binds nothing. */
        private final int[] pairLow = new int[ROOM], pairHigh = new int[ROOM];
        private final Table table = new Table();
        /** The fraction found last, in lowest terms. */
        private long above, below;

        private Weights() {
            for (int i = 0; i < ROOM; i++) pairHigh[i] = WHOLE;
        }

        private boolean isPlace(int i) {
            return i >= 0 && i < count;
        }

        private boolean isFull() {
            return count >= ROOM;
        }

        private boolean has(int aNode) {
            for (int i = 0; i < count; i++) {
                if (node[i] == aNode) return true;
            }
            return false;
        }

        private int add(int newNode, int newLow, int newHigh) {
            if (count >= ROOM) return count;
            node[count] = newNode;
            low[count] = newLow;
            high[count] = newHigh;
            count++;
            return count;
        }

        private void tellPair(int a, int b, int newLow, int newHigh) {
            pairLow[a + b - 1] = newLow;
            pairHigh[a + b - 1] = newHigh;
        }

        private int clear() {
            int were = count;
            count = 0;
            for (int i = 0; i < ROOM; i++) {
                pairLow[i] = 0;
                pairHigh[i] = WHOLE;
            }
            return were;
        }

        private int allWorlds() {
            return (1 << (1 << count)) - 1;
        }

        private int worldsShowing(Net net, int claim) {
            int others = net.standing();
            for (int i = 0; i < count; i++) others &= ~(1 << node[i]);
            int worlds = 0;
            for (int w = 0; w < 1 << count; w++) {
                int standing = others;
                for (int i = 0; i < count; i++) standing |= bitAt(w, i) << node[i];
                worlds |= bitAt(net.spread(standing, 0), claim) << w;
            }
            return worlds;
        }

        /** The least that these WORLDS have together; false: they do not AGREE. */
        private boolean findLeast(int worlds) {
            table.begin(1 << count, worlds);
            table.addRow(allWorlds(), 1, WHOLE);
            table.addRow(allWorlds(), -1, -WHOLE);
            for (int i = 0; i < count; i++) {
                addSpan(WORLDS_WITH[i], low[i], high[i]);
                for (int j = 0; j < i; j++) {
                    addSpan(WORLDS_WITH[i] & WORLDS_WITH[j], pairLow[i + j - 1], pairHigh[i + j - 1]);
                }
            }
            if (!table.settle()) return false;
            reduce(table.least(), WHOLE * table.divisor);
            return true;
        }

        /** The most is what the other WORLDS at their least leave of the whole. */
        private boolean findMost(int worlds) {
            if (!findLeast(allWorlds() & ~worlds)) return false;
            above = below - above;
            return true;
        }

        /** Leaves out what binds nothing, as every share is 0 or more and all are one together. */
        private void addSpan(int worlds, int least, int most) {
            if (most < WHOLE) table.addRow(worlds, 1, most);
            if (least > 0) table.addRow(worlds, -1, -least);
        }

        /** The place of the one that raises most the least found just now; -1: none does. */
        private int bestRaise(int worlds) {
            int best = -1;
            long bestAbove = above, bestBelow = below;
            for (int i = 0; i < count; i++) {
                if (findLeastRaised(worlds, i) && above * bestBelow > bestAbove * below) {
                    best = i;
                    bestAbove = above;
                    bestBelow = below;
                }
            }
            return best;
        }

        private boolean findLeastRaised(int worlds, int i) {
            int kept = low[i];
            low[i] = high[i];
            boolean agreed = findLeast(worlds);
            low[i] = kept;
            return agreed;
        }

        private void reduce(long top, long bottom) {
            long a = bottom, b = top;
            for (int i = 0; i < 100 && b != 0; i++) {
                long rest = a % b;
                a = b;
                b = rest;
            }
            above = Table.divide(top, a);
            below = Table.divide(bottom, a);
        }
    }

    /**
     * Finds the least cost of shares under rows of bounds: the dual simplex method, which may begin at
     * once as no cost is below 0. All is whole numbers over one divisor, so it is exact; they stay
     * small, as each is a determinant of the first table. The least name goes first (Bland's rule), so
     * it never comes back to where it was.
     */
    private static final class Table {
        private static final int COLUMNS = 8, ROWS = 15, TURNS = 1000000;
        private static final int COST = 0;

        /** Row 0 has the costs; behind the columns in use stands each row's bound (of row 0: 0 less the cost so far). */
        private final long[][] cells = new long[ROWS][COLUMNS + 1];
        private final int[] rowName = new int[ROWS], columnName = new int[COLUMNS];
        private int rows, columns;
        private long divisor;

        private void begin(int worlds, int costly) {
            columns = Math.min(worlds, COLUMNS);
            for (int c = 0; c < columns; c++) columnName[c] = c;
            divisor = 1;
            rows = 0;
            addRow(costly, 1, 0);
        }

        /** Tells that sign times the shares of these worlds, added, is at most the bound. */
        private void addRow(int worlds, int sign, int bound) {
            if (rows >= ROWS) return;
            for (int c = 0; c < columns; c++) cells[rows][c] = sign * bitAt(worlds, c);
            cells[rows][columns] = bound;
            rowName[rows] = COLUMNS + rows;
            rows++;
        }

        private long least() {
            return -cells[COST][columns];
        }

        /** False: no shares keep all bounds. */
        private boolean settle() {
            for (int turn = 0; turn < TURNS; turn++) {
                int row = brokenRow();
                if (row < 0) return true;
                int column = mendingColumn(row);
                if (column < 0) return false;
                exchange(row, column);
            }
            return false;
        }

        private int brokenRow() {
            int best = -1;
            for (int r = COST + 1; r < rows; r++) {
                if (cells[r][columns] < 0 && (best < 0 || rowName[r] < rowName[best])) best = r;
            }
            return best;
        }

        private int mendingColumn(int row) {
            int best = -1;
            for (int c = 0; c < columns; c++) {
                if (cells[row][c] < 0 && (best < 0 || isCheaper(row, c, best))) best = c;
            }
            return best;
        }

        private boolean isCheaper(int row, int c, int best) {
            long one = cells[COST][c] * -cells[row][best];
            long other = cells[COST][best] * -cells[row][c];
            return one < other || one == other && columnName[c] < columnName[best];
        }

        private void exchange(int row, int column) {
            long next = -cells[row][column];
            for (int r = 0; r < rows; r++) {
                if (r != row) clearOf(r, row, column);
            }
            for (int c = 0; c <= columns; c++) cells[row][c] = -cells[row][c];
            cells[row][column] = -divisor;
            divisor = next;
            int name = rowName[row];
            rowName[row] = columnName[column];
            columnName[column] = name;
        }

        /** Puts into row r what the given row says of the given column; the division leaves no rest. */
        private void clearOf(int r, int row, int column) {
            long next = -cells[row][column];
            long factor = cells[r][column];
            for (int c = 0; c <= columns; c++) {
                if (c != column) cells[r][c] = divide(next * cells[r][c] + factor * cells[row][c], divisor);
            }
        }

        private static long divide(long a, long b) {
            return b == 0 ? 0 : a / b;
        }
    }

    /** The BODIES of the ASKS, each with its number, and THE TRACE that they leave. */
    private static final class Asks {
        private static final int ROOM = 16;

        private final int[] trace = new int[ROOM];
        private int traced;
        /** What is SHOWN while an ASK is answered. */
        private int shownBits;

        private void start(int shownNow) {
            traced = 0;
            shownBits = shownNow;
        }

        private void begin(int body) {
            if (traced >= ROOM) return;
            trace[traced] = body;
            traced++;
        }

        private int size(Net net, int node) {
            switch (net.kindOf(node)) {
                case KIND_LEAF: return size11(net, node);
                case KIND_GIVEN: return size12(net, node);
                case KIND_CLAIM: return size13(net, node);
                case KIND_TOP: return size14(net, node);
                case KIND_LOST: return size15(net, node);
                default: return size10(net, node);
            }
        }

        private int mark(Net net, int node) {
            switch (net.kindOf(node)) {
                case KIND_CLAIM:
                case KIND_TOP: return mark21(node);
                case KIND_LOST: return mark22(net, node);
                default: return mark20(node);
            }
        }

        private int size10(Net net, int node) {
            begin(10);
            return net.timesPart(node);
        }

        private int size11(Net net, int node) {
            begin(11);
            return size10(net, node) + net.hand[node];
        }

        private int size12(Net net, int node) {
            begin(12);
            return 2 * size11(net, node);
        }

        private int size13(Net net, int node) {
            begin(13);
            return size10(net, node) + mark(net, node);
        }

        private int size14(Net net, int node) {
            begin(14);
            return size13(net, node) + net.timesHeld(node);
        }

        private int size15(Net net, int node) {
            begin(15);
            return -size11(net, node);
        }

        private int mark20(int node) {
            begin(20);
            return node;
        }

        private int mark21(int node) {
            begin(21);
            return mark20(node) + 100 * bitAt(shownBits, node);
        }

        private int mark22(Net net, int node) {
            begin(22);
            return mark20(node) + net.today;
        }
    }
}
