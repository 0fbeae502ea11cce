import java.math.BigInteger;
import java.util.ArrayList;
import java.util.Arrays;
import java.util.HashSet;
import java.util.List;
import java.util.Random;
import java.util.Set;
import java.util.TreeSet;

/**
 * Runs of calls with arguments from a fixed seed, right and wrong, each answer held against a slow
 * model that goes by the document's words: sets for bits, definitions tried one by one, and a
 * textbook simplex over fractions for the odds.
 */
public final class OracleTest {
    private static final int NONE = -1000000, BAD = -1000001, STATE = -1000002, FULL = -1000003;
    private static final int RUNS = 150, CALLS = 512;

    public static void main(String[] args) {
        long seed = args.length > 0 ? Long.parseLong(args[0]) : 1;
        int runs = args.length > 1 ? Integer.parseInt(args[1]) : RUNS;
        int wrong = 0;
        for (int run = 0; run < runs && wrong < 5; run++) {
            if (!new Run(seed * 1000003 + run).isAsDue()) wrong++;
            if (!new Run(seed * 2000003 + run).areOddsAsDue()) wrong++;
        }
        System.out.println(wrong == 0 ? "all answers are as due" : "answers are not as due");
        if (wrong != 0) System.exit(1);
    }

    /** One object, its model, and the calls so far. */
    private static final class Run {
        private final Random random;
        private final SafeNet x = new SafeNet();
        private final Model m = new Model();
        private final List<String> calls = new ArrayList<>();
        private boolean asDue = true;

        Run(long seed) {
            random = new Random(seed);
        }

        boolean isAsDue() {
            if (random.nextInt(10) != 0) {
                feedAndRead(firstText().getBytes(java.nio.charset.StandardCharsets.ISO_8859_1));
                answerDoubts();
            }
            while (calls.size() < CALLS && asDue) {
                switch (random.nextInt(8)) {
                    case 0: sheets(); break;
                    case 1: if (random.nextInt(4) == 0) tell(); break;
                    case 2: look(); break;
                    case 3: doubts(); break;
                    case 4: stand(); break;
                    case 5: weigh(); break;
                    case 6: odds(); break;
                    default: asked(); break;
                }
            }
            return tellIfNotDue();
        }

        /** Odds of all ways in which three leaves can hold a claim up, with spans and pairs of all sorts. */
        boolean areOddsAsDue() {
            feedAndRead(("leaf 1;leaf 2;given 3;" + "claim;".repeat(9)
                + "step all 3 0 1 2;step any 4 0 1 2;step most 5 0 1 2;step all 6 2 1;step any 7 0 1;"
                + "step all 8 0 7;step like 8 6 0;step any 9 6 0;step all 10 2 7;step like 11 1;").getBytes());
            for (int s = 0; s < 10; s++) {
                for (int k = 0; k < m.steps.get(s).doubts.length; k++) hold("doubt", x.doubt(s, k, 1), m.doubt(s, k, 1));
            }
            for (int turn = 0; turn < 8 && asDue; turn++) {
                hold("unweigh()", x.unweigh(), m.unweigh());
                int from = random.nextInt(3), by = 1 + random.nextInt(2);
                for (int i = 0; i < 3; i++) weighOne((from + i * by) % 3);
                for (int i = 0; i < 3; i++) if (random.nextInt(4) != 0) pairTwo(i, (i + 1) % 3);
                for (int k = 0; k < 4 && m.agree() == 0; k++) {
                    int a = random.nextInt(3);
                    pairTwo(a, (a + 1) % 3);
                }
                hold("agree()", x.agree(), m.agree());
                int claim = 3 + random.nextInt(9);
                for (int what = 0; what < 4; what++) hold("odds(" + claim + ", " + what + ")", x.odds(claim, what), m.odds(claim, what));
                hold("raise(" + claim + ")", x.raise(claim), m.raise(claim));
            }
            return tellIfNotDue();
        }

        private boolean tellIfNotDue() {
            if (!asDue) {
                for (String call : calls) System.out.println("  " + call);
                System.out.println();
            }
            return asDue;
        }

        private void hold(String call, int got, int want) {
            calls.add(call + " = " + got + (got == want ? "" : ", due is " + want));
            if (got != want) asDue = false;
        }

        /** Mostly low .. high, now and then just beyond or far off. */
        private int some(int low, int high) {
            int dice = random.nextInt(40);
            if (dice == 0) return low - 1;
            if (dice == 1) return high + 1;
            if (dice == 2) return random.nextInt();
            if (dice == 3) return random.nextBoolean() ? Integer.MAX_VALUE : Integer.MIN_VALUE;
            return low + random.nextInt(high - low + 1);
        }

        private int someNode() {
            return some(0, Math.max(0, m.nodes.size() - 1));
        }

        private int someOf(boolean claims) {
            List<Integer> all = new ArrayList<>();
            for (int n = 0; n < m.nodes.size(); n++) if (m.nodes.get(n).sort == 2 == claims) all.add(n);
            return all.isEmpty() || random.nextInt(12) == 0 ? someNode() : all.get(random.nextInt(all.size()));
        }

        private int someStep() {
            return some(0, Math.max(0, m.steps.size() - 1));
        }

        private void sheets() {
            for (int k = 0; k < 4; k++) {
                int a = some(0, 2), b = some(0, 2), i = some(0, 6), j = some(0, 6), n = some(0, 8);
                switch (random.nextInt(6)) {
                    case 0: {
                        int lane = some(0, 2), size = random.nextBoolean() ? some(0, 40) : n;
                        hold("sheet(" + a + ", " + lane + ", " + size + ")", x.sheet(a, lane, size), m.sheet(a, lane, size));
                        break;
                    }
                    case 1: hold("copy(" + a + ", " + i + ", " + b + ", " + j + ", " + n + ")", x.copy(a, i, b, j, n), m.copy(a, i, b, j, n)); break;
                    case 2: if (random.nextInt(4) == 0) hold("drop(" + a + ")", x.drop(a), m.drop(a)); break;
                    default: {
                        int v = random.nextBoolean() ? some(0, 12) : random.nextInt(70000) - 1000;
                        hold("set(" + a + ", " + i + ", " + v + ")", x.set(a, i, v), m.set(a, i, v));
                    }
                }
                hold("status()", x.status(), m.status);
            }
        }

        private void tell() {
            String text = random.nextInt(30) == 0 ? " \n;".repeat(140) : someText();
            byte[] bytes = text.getBytes(java.nio.charset.StandardCharsets.ISO_8859_1);
            if (random.nextInt(3) == 0 && bytes.length > 0) bytes[random.nextInt(bytes.length)] = (byte) someSign();
            int wrongN = random.nextBoolean() ? 0 : 9;
            hold("feed(0L, " + wrongN + ")", x.feed(0L, wrongN), BAD);
            feedAndRead(bytes);
        }

        private void feedAndRead(byte[] bytes) {
            for (int i = 0; i < bytes.length; ) {
                int n = Math.min(bytes.length - i, random.nextInt(9) == 0 ? 1 + random.nextInt(8) : 8);
                long w = random.nextLong();
                for (int k = 0; k < n; k++) w = w << 8 | bytes[i + k] & 255;
                hold("feed(" + w + "L, " + n + ")", x.feed(w, n), m.feed(w, n));
                i += n;
            }
            hold("count(7)", x.count(7), m.tape.size());
            hold("net()", x.net(), m.net());
            hold("fault()", x.fault(), m.fault);
        }

        private int someSign() {
            return random.nextInt(4) == 0 ? random.nextInt(256) : " \n;0123456789aelst".charAt(random.nextInt(18));
        }

        /** Leaves and givens, then claims, then steps that mostly go up the numbers. */
        private String firstText() {
            String[] forms = {"all", "any", "most", "like"};
            StringBuilder text = new StringBuilder();
            int grounds = 3 + random.nextInt(8), claims = 1 + random.nextInt(7), all = grounds + claims;
            for (int n = 0; n < grounds; n++) text.append(random.nextInt(4) == 0 ? "given" : "leaf").append(random.nextInt(5)).append(';');
            for (int n = 0; n < claims; n++) text.append("claim;");
            int many = 1 + random.nextInt(14);
            for (int s = 0; s < many; s++) {
                int claim = grounds + (s < claims ? s : random.nextInt(claims));
                text.append("step ").append(forms[random.nextInt(4)]).append(' ').append(claim);
                Set<Integer> parts = new HashSet<>();
                int tries = 1 + random.nextInt(6);
                for (int p = 0; p < tries; p++) {
                    int part = random.nextInt(random.nextInt(6) == 0 ? all : random.nextBoolean() ? claim : grounds);
                    if (parts.add(part)) text.append(' ').append(part);
                }
                text.append(';');
            }
            return text.toString();
        }

        private String someText() {
            String[] forms = {"all", "any", "most", "like"};
            StringBuilder text = new StringBuilder();
            List<Integer> claims = new ArrayList<>();
            for (int n = 0; n < m.nodes.size(); n++) if (m.nodes.get(n).sort == 2) claims.add(n);
            int nodes = m.nodes.size();
            int sentences = 1 + random.nextInt(12);
            for (int s = 0; s < sentences; s++) {
                int dice = random.nextInt(10);
                if (nodes >= 20 && dice < 7 && random.nextInt(4) != 0) dice = 9;
                if (dice < 3) {
                    text.append("leaf ").append(random.nextInt(9) == 0 ? some(0, 12) & 16383 : random.nextInt(4)).append(';');
                    nodes++;
                } else if (dice < 4) {
                    text.append("given ").append(random.nextInt(10)).append(';');
                    nodes++;
                } else if (dice < 6 || claims.isEmpty()) {
                    text.append("claim;");
                    claims.add(nodes++);
                } else {
                    text.append("step ").append(forms[random.nextInt(4)]).append(' ').append(claims.get(random.nextInt(claims.size())));
                    Set<Integer> parts = new HashSet<>();
                    int many = 1 + random.nextInt(random.nextInt(6) == 0 ? 7 : 4);
                    for (int p = 0; p < many; p++) {
                        int part = random.nextInt(nodes + (random.nextInt(20) == 0 ? 1 : 0));
                        if (parts.add(part) || random.nextInt(20) == 0) text.append(' ').append(part);
                    }
                    text.append(';');
                }
                if (random.nextInt(5) == 0) text.append(random.nextBoolean() ? "\n" : "  ");
            }
            return text.toString();
        }

        private void look() {
            if (random.nextInt(4) == 0) {
                int a = some(3, 4), n = some(1, 2);
                int lane = 1 + random.nextInt(2);
                hold("sheet(" + a + ", " + lane + ", 8)", x.sheet(a, lane, 8), m.sheet(a, lane, 8));
                int shift = random.nextInt(3);
                for (int i = 0; i < 6; i++) {
                    int v = i % 3 == 0 ? someOf(false) : some(0, random.nextInt(6) == 0 ? 9999 : 50);
                    hold("set(" + a + ", " + (i + shift) + ", " + v + ")", x.set(a, i + shift, v), m.set(a, i + shift, v));
                }
                int at = random.nextInt(20) == 0 ? some(0, 7) : shift;
                hold("looked(" + a + ", " + at + ", " + n + ")", x.looked(a, at, n), m.looked(a, at, n));
            }
            if (random.nextInt(6) == 0) {
                int d = random.nextInt(5) == 0 ? some(0, 9999) : some(0, 60);
                hold("day(" + d + ")", x.day(d), m.setDay(d));
            }
            int n = someOf(false), is = random.nextInt(3) == 0 ? some(0, 1) : 0;
            hold("fall(" + n + ", " + is + ")", x.fall(n, is), m.fall(n, is));
        }

        private void doubts() {
            if (random.nextInt(12) == 0) answerDoubts();
            int s = someStep(), k = some(0, 2), how = some(0, 11), h = some(0, 9);
            hold("doubt(" + s + ", " + k + ", " + how + ")", x.doubt(s, k, how), m.doubt(s, k, how));
            hold("borne(" + h + ")", x.borne(h), m.borne(h));
            int what = some(0, 5), i = some(0, 6), n = someNode();
            hold("step(" + s + ", " + what + ")", x.step(s, what), m.step(s, what));
            hold("part(" + s + ", " + i + ")", x.part(s, i), m.part(s, i));
            hold("node(" + n + ", " + what + ")", x.node(n, what), m.node(n, what));
        }

        private void answerDoubts() {
            for (int s = 0; s < m.steps.size(); s++) {
                for (int k = 0; k < m.steps.get(s).doubts.length; k++) {
                    int how = random.nextInt(15) == 0 ? 0 : some(1, 11);
                    hold("doubt(" + s + ", " + k + ", " + how + ")", x.doubt(s, k, how), m.doubt(s, k, how));
                }
            }
        }

        private void stand() {
            int what = some(0, 2), n = someNode(), claim = someOf(true), i = some(-1, 6);
            hold("shown(" + what + ")", x.shown(what), m.shownOf(what));
            hold("leaning(" + n + ")", x.leaning(n), m.leaning(n));
            hold("felling(" + claim + ", -1)", x.felling(claim, -1), m.felling(claim, -1));
            hold("felling(" + claim + ", " + i + ")", x.felling(claim, i), m.felling(claim, i));
            hold("hand()", x.hand(), m.hand());
        }

        private int[] someSpan() {
            int low = 20 + random.nextInt(61), high = Math.min(100, low + random.nextInt(40));
            if (random.nextInt(20) == 0) low = some(0, 100);
            if (random.nextInt(20) == 0) high = some(0, 100);
            if (random.nextInt(6) == 0) low = 0;
            if (random.nextInt(5) == 0) high = low;
            return new int[] {low, high};
        }

        private void weigh() {
            if (random.nextInt(12) == 0) hold("unweigh()", x.unweigh(), m.unweigh());
            weighOne(someOf(false));
            int a = some(0, 2), b = random.nextInt(9) == 0 ? some(0, 2) : (a + 1 & 3) % 3;
            if (random.nextInt(3) != 0) pairTwo(a, b);
            hold("agree()", x.agree(), m.agree());
            if (m.agree() == 0 && random.nextBoolean()) hold("unweigh()", x.unweigh(), m.unweigh());
        }

        private void weighOne(int n) {
            int[] span = someSpan();
            hold("weigh(" + n + ", " + span[0] + ", " + span[1] + ")", x.weigh(n, span[0], span[1]), m.weigh(n, span[0], span[1]));
        }

        private void pairTwo(int a, int b) {
            int[] both = random.nextInt(4) == 0 ? new int[] {0, 100} : someSpan();
            if (random.nextInt(5) != 0) both[0] /= 3;
            hold("pair(" + a + ", " + b + ", " + both[0] + ", " + both[1] + ")", x.pair(a, b, both[0], both[1]), m.pair(a, b, both[0], both[1]));
        }

        private void odds() {
            int claim = someOf(true);
            for (int what = 0; what < 4; what++) hold("odds(" + claim + ", " + what + ")", x.odds(claim, what), m.odds(claim, what));
            int wrongWhat = some(0, 3);
            hold("odds(" + claim + ", " + wrongWhat + ")", x.odds(claim, wrongWhat), m.odds(claim, wrongWhat));
            hold("raise(" + claim + ")", x.raise(claim), m.raise(claim));
        }

        private void asked() {
            int n = someNode(), k = some(0, 5), what = some(0, 1), i = some(0, 5), c = some(0, 7);
            hold("kind(" + n + ")", x.kind(n), m.kind(n));
            hold("as(" + n + ", " + k + ")", x.as(n, k), m.as(n, k));
            hold("status()", x.status(), m.status);
            hold("ask(" + n + ", " + what + ")", x.ask(n, what), m.ask(n, what));
            hold("trace(" + i + ")", x.trace(i), m.traceAt(i));
            hold("count(" + c + ")", x.count(c), m.count(c));
        }
    }

    private static final class Node {
        int sort, hand, day = 0, good = 9999, fallen = 0;
    }

    private static final class Step {
        int form, claim;
        List<Integer> parts = new ArrayList<>();
        int[] doubts;
    }

    private static final class Fault extends RuntimeException {
        private static final long serialVersionUID = 1;
        final int place, number;

        Fault(int place, int number) {
            this.place = place;
            this.number = number;
        }
    }

    /** The document, word by word. */
    private static final class Model {
        final int[][] sheets = new int[8][];
        final int[] lanes = new int[8];
        final List<Integer> tape = new ArrayList<>();
        List<Node> nodes = new ArrayList<>();
        List<Step> steps = new ArrayList<>();
        final List<int[]> weighed = new ArrayList<>();
        final int[][][] pairs = new int[3][3][];
        List<Integer> trace = new ArrayList<>();
        int fault = 0, status = 0, theDay = 0;

        private boolean in(int v, int low, int high) {
            return low <= v && v <= high;
        }

        private int found(int number) {
            status = number;
            return -1000010 - number;
        }

        private int well(int answer) {
            status = 0;
            return answer;
        }

        int sheet(int s, int lane, int n) {
            if (!in(s, 0, 7) || !in(lane, 0, 2) || n > 40) return BAD;
            if (n < 0) return found(4);
            sheets[s] = new int[n];
            lanes[s] = lane;
            return well(n);
        }

        int set(int s, int i, int v) {
            if (!in(s, 0, 7)) return BAD;
            if (sheets[s] == null) return found(1);
            if (!in(i, 0, sheets[s].length - 1)) return found(2);
            int bits = 8 << lanes[s];
            sheets[s][i] = v << (32 - bits) >> (32 - bits);
            return well(sheets[s][i]);
        }

        int copy(int a, int i, int b, int j, int n) {
            if (!in(a, 0, 7) || !in(b, 0, 7)) return BAD;
            if (sheets[a] == null || sheets[b] == null) return found(1);
            if (lanes[a] != lanes[b]) return found(5);
            if (i < 0 || j < 0 || n < 0 || (long) i + n > sheets[a].length || (long) j + n > sheets[b].length) return found(2);
            int[] ahead = sheets[a].clone();
            for (int k = 0; k < n; k++) sheets[b][j + k] = ahead[i + k];
            return well(n);
        }

        int drop(int s) {
            if (!in(s, 0, 7)) return BAD;
            if (sheets[s] == null) return found(1);
            int had = sheets[s].length;
            sheets[s] = null;
            return well(had);
        }

        int feed(long w, int n) {
            if (!in(n, 1, 8)) return BAD;
            if (tape.size() + n > 400) return FULL;
            for (int k = n - 1; k >= 0; k--) tape.add((int) (w >>> (8 * k) & 255));
            return tape.size();
        }

        int net() {
            StringBuilder text = new StringBuilder();
            for (int b : tape) text.append((char) b);
            tape.clear();
            List<Node> nodesAhead = new ArrayList<>(nodes);
            List<Step> stepsAhead = new ArrayList<>(steps);
            try {
                read(text.toString());
                return nodes.size();
            } catch (Fault f) {
                nodes = nodesAhead;
                steps = stepsAhead;
                fault = f.number;
                return -1000100 - f.place;
            }
        }

        /** Tokens with their places; the last is the end, an empty one. */
        private void read(String text) {
            List<String> tokens = new ArrayList<>();
            List<Integer> places = new ArrayList<>();
            java.util.regex.Matcher matcher = java.util.regex.Pattern.compile("[a-z]+|[0-9]+|[^ \n]", java.util.regex.Pattern.DOTALL).matcher(text);
            while (matcher.find()) {
                tokens.add(matcher.group());
                places.add(matcher.start());
            }
            tokens.add("");
            places.add(text.length());
            int at = 0;
            while (!tokens.get(at).isEmpty()) {
                String word = tokens.get(at);
                int place = places.get(at);
                at++;
                if (word.equals("leaf") || word.equals("given") || word.equals("claim")) {
                    if (nodes.size() == 20) throw new Fault(place, 3);
                    Node node = new Node();
                    node.sort = word.equals("leaf") ? 0 : word.equals("given") ? 1 : 2;
                    if (node.sort < 2) {
                        node.hand = number(tokens.get(at), places.get(at));
                        if (node.hand > 9) throw new Fault(places.get(at), 2);
                        at++;
                    }
                    nodes.add(node);
                } else if (word.equals("step")) {
                    if (steps.size() == 16) throw new Fault(place, 3);
                    Step step = new Step();
                    step.form = Arrays.asList("all", "any", "most", "like").indexOf(tokens.get(at));
                    if (step.form < 0) throw new Fault(places.get(at), 1);
                    step.doubts = new int[new int[] {2, 1, 2, 3}[step.form]];
                    at++;
                    step.claim = number(tokens.get(at), places.get(at));
                    if (step.claim >= nodes.size() || nodes.get(step.claim).sort != 2) throw new Fault(places.get(at), 2);
                    at++;
                    do {
                        int part = number(tokens.get(at), places.get(at));
                        if (part >= nodes.size() || step.parts.contains(part)) throw new Fault(places.get(at), 2);
                        if (step.parts.size() == 6) throw new Fault(places.get(at), 3);
                        step.parts.add(part);
                        at++;
                    } while (!tokens.get(at).equals(";"));
                    steps.add(step);
                } else {
                    throw new Fault(place, 1);
                }
                if (!tokens.get(at).equals(";")) throw new Fault(places.get(at), 1);
                at++;
            }
        }

        private int number(String token, int place) {
            if (!token.matches("[0-9]{1,4}")) throw new Fault(place, 1);
            return Integer.parseInt(token);
        }

        private boolean isNode(int n) {
            return in(n, 0, nodes.size() - 1);
        }

        private boolean isClaim(int n) {
            return isNode(n) && nodes.get(n).sort == 2;
        }

        private boolean isGround(int n) {
            return isNode(n) && nodes.get(n).sort != 2;
        }

        private boolean stands(int n) {
            Node node = nodes.get(n);
            boolean old = theDay - node.day > node.good;
            return isGround(n) && !old && node.fallen == 0;
        }

        private Set<Integer> standing() {
            Set<Integer> all = new TreeSet<>();
            for (int n = 0; n < nodes.size(); n++) if (stands(n)) all.add(n);
            return all;
        }

        private boolean borneUp(Step step, Set<Integer> by) {
            int many = 0;
            for (int p : step.parts) if (by.contains(p)) many++;
            switch (step.form) {
                case 0: return many == step.parts.size();
                case 1: return many >= 1;
                case 2: return many > step.parts.size() / 2.0;
                default: return by.contains(step.parts.get(0));
            }
        }

        /** Round by round; the rounds' sets, that of the leaves first. */
        private List<Set<Integer>> rounds(Set<Integer> ground, int unheld) {
            List<Set<Integer>> all = new ArrayList<>();
            all.add(ground);
            while (true) {
                Set<Integer> ahead = all.get(all.size() - 1), now = new TreeSet<>(ahead);
                for (Step step : steps) {
                    boolean open = false;
                    for (int d : step.doubts) if (d == 0) open = true;
                    if (!open && step.claim != unheld && borneUp(step, ahead)) now.add(step.claim);
                }
                if (now.equals(ahead)) return all;
                all.add(now);
            }
        }

        private Set<Integer> shown(Set<Integer> ground, int unheld) {
            List<Set<Integer>> all = rounds(ground, unheld);
            return all.get(all.size() - 1);
        }

        private int bits(Set<Integer> set) {
            int bits = 0;
            for (int n : set) bits += 1 << n;
            return bits;
        }

        private Set<Integer> claimsOf(Set<Integer> set) {
            Set<Integer> claims = new TreeSet<>(set);
            claims.removeIf(n -> !isClaim(n));
            return claims;
        }

        int node(int n, int what) {
            if (!isNode(n) || !in(what, 0, 5)) return BAD;
            Node node = nodes.get(n);
            boolean claim = node.sort == 2;
            return new int[] {node.sort, claim ? NONE : node.hand, claim ? NONE : node.day, claim ? NONE : node.good,
                node.fallen, shown(standing(), -1).contains(n) ? 1 : 0}[what];
        }

        int step(int s, int what) {
            if (!in(s, 0, steps.size() - 1) || !in(what, 0, 5)) return BAD;
            Step step = steps.get(s);
            int open = 0;
            for (int d : step.doubts) if (d == 0) open++;
            return new int[] {step.form, step.claim, step.parts.size(), step.doubts.length, open,
                borneUp(step, shown(standing(), -1)) ? 1 : 0}[what];
        }

        int part(int s, int i) {
            if (!in(s, 0, steps.size() - 1) || i < 0) return BAD;
            return i < steps.get(s).parts.size() ? steps.get(s).parts.get(i) : NONE;
        }

        int doubt(int s, int k, int how) {
            if (!in(s, 0, steps.size() - 1) || !in(k, 0, steps.get(s).doubts.length - 1) || !in(how, 0, 11)) return BAD;
            int was = steps.get(s).doubts[k];
            steps.get(s).doubts[k] = how;
            return was;
        }

        int borne(int h) {
            if (!in(h, 0, 9)) return BAD;
            int many = 0;
            for (Step step : steps) for (int d : step.doubts) if (d - 2 == h) many++;
            return many;
        }

        int looked(int s, int i, int n) {
            if (!in(s, 0, 7) || !in(n, 1, 8)) return BAD;
            if (sheets[s] == null) return found(1);
            if (i < 0 || (long) i + 3 * n > sheets[s].length) return found(2);
            for (int k = i; k < i + 3 * n; k += 3) {
                if (!isGround(sheets[s][k]) || !in(sheets[s][k + 1], 0, 9999) || !in(sheets[s][k + 2], 0, 9999)) return BAD;
            }
            for (int k = i; k < i + 3 * n; k += 3) {
                nodes.get(sheets[s][k]).day = sheets[s][k + 1];
                nodes.get(sheets[s][k]).good = sheets[s][k + 2];
            }
            return well(n);
        }

        int fall(int n, int is) {
            if (!isGround(n) || !in(is, 0, 1)) return BAD;
            int was = nodes.get(n).fallen;
            nodes.get(n).fallen = is;
            return was;
        }

        int setDay(int d) {
            if (!in(d, 0, 9999)) return BAD;
            int was = theDay;
            theDay = d;
            return was;
        }

        int shownOf(int what) {
            if (what == 0) return bits(claimsOf(shown(standing(), -1)));
            if (what == 1) return rounds(standing(), -1).size() - 1;
            if (what != 2) return BAD;
            Set<Integer> circles = new TreeSet<>();
            for (int n = 0; n < nodes.size(); n++) {
                Set<Integer> from = new TreeSet<>();
                List<Integer> todo = new ArrayList<>(List.of(n));
                while (!todo.isEmpty()) {
                    int at = todo.remove(todo.size() - 1);
                    for (Step step : steps) if (step.claim == at) for (int p : step.parts) if (from.add(p)) todo.add(p);
                }
                if (from.contains(n)) circles.add(n);
            }
            return bits(circles);
        }

        int leaning(int n) {
            if (!isNode(n)) return BAD;
            Set<Integer> ground = standing();
            ground.remove(n);
            Set<Integer> lost = claimsOf(shown(standing(), -1));
            lost.removeAll(shown(ground, n));
            lost.remove(n);
            return bits(lost);
        }

        private boolean felled(int claim, int set) {
            Set<Integer> ground = standing();
            ground.removeIf(n -> (set >> n & 1) == 1);
            return !shown(ground, -1).contains(claim);
        }

        int felling(int claim, int i) {
            if (!isClaim(claim) || i < -1) return BAD;
            if (!shown(standing(), -1).contains(claim)) return STATE;
            Set<Integer> tried = new HashSet<>();
            for (int a : standing()) for (int b : standing()) for (int c : standing()) tried.add(1 << a | 1 << b | 1 << c);
            List<Integer> sets = new ArrayList<>();
            for (int set : tried) {
                if (!felled(claim, set)) continue;
                boolean least = true;
                for (int n = 0; n < nodes.size(); n++) if ((set >> n & 1) == 1 && felled(claim, set - (1 << n))) least = false;
                if (least) sets.add(set);
            }
            sets.sort((a, b) -> Integer.bitCount(a) != Integer.bitCount(b) ? Integer.bitCount(a) - Integer.bitCount(b) : a - b);
            if (i < 0) return sets.size();
            return i < sets.size() ? sets.get(i) : NONE;
        }

        int hand() {
            int best = NONE, most = 0;
            for (int h = 0; h < 10; h++) {
                Set<Integer> ground = standing();
                int hand = h;
                ground.removeIf(n -> nodes.get(n).hand == hand);
                Set<Integer> lost = claimsOf(shown(standing(), -1));
                lost.removeAll(shown(ground, -1));
                if (lost.size() > most) {
                    most = lost.size();
                    best = h;
                }
            }
            return best;
        }

        int weigh(int n, int low, int high) {
            if (!isGround(n) || !in(low, 0, 100) || !in(high, 0, 100) || high < low) return BAD;
            for (int[] w : weighed) if (w[0] == n) return STATE;
            if (weighed.size() == 3) return FULL;
            weighed.add(new int[] {n, low, high});
            return weighed.size();
        }

        int pair(int a, int b, int low, int high) {
            if (!in(a, 0, weighed.size() - 1) || !in(b, 0, weighed.size() - 1) || a == b) return BAD;
            if (!in(low, 0, 100) || !in(high, 0, 100) || high < low) return BAD;
            pairs[Math.min(a, b)][Math.max(a, b)] = new int[] {low, high};
            return 1;
        }

        int unweigh() {
            int were = weighed.size();
            weighed.clear();
            for (int[][] row : pairs) Arrays.fill(row, null);
            return were;
        }

        private boolean[] showing(int claim) {
            boolean[] shows = new boolean[1 << weighed.size()];
            for (int w = 0; w < shows.length; w++) {
                Set<Integer> ground = standing();
                for (int i = 0; i < weighed.size(); i++) {
                    if ((w >> i & 1) == 1) ground.add(weighed.get(i)[0]);
                    else ground.remove(weighed.get(i)[0]);
                }
                shows[w] = shown(ground, -1).contains(claim);
            }
            return shows;
        }

        /** The least (most: sign -1) share of the worlds that show; null: they do not agree. */
        private Fraction best(boolean[] shows, int sign) {
            int worlds = 1 << weighed.size();
            Simplex simplex = new Simplex(worlds);
            long[] all = new long[worlds];
            Arrays.fill(all, 1);
            simplex.add(all, 0, 100);
            for (int a = 0; a < weighed.size(); a++) {
                simplex.addSpan(with(worlds, 1 << a), weighed.get(a)[1], weighed.get(a)[2]);
                for (int b = a + 1; b < weighed.size(); b++) {
                    if (pairs[a][b] != null) simplex.addSpan(with(worlds, 1 << a | 1 << b), pairs[a][b][0], pairs[a][b][1]);
                }
            }
            long[] cost = new long[worlds];
            for (int w = 0; w < worlds; w++) cost[w] = shows[w] ? sign : 0;
            Fraction least = simplex.least(cost);
            return least == null ? null : least.times(new Fraction(sign, 100));
        }

        private long[] with(int worlds, int stand) {
            long[] row = new long[worlds];
            for (int w = 0; w < worlds; w++) row[w] = (w & stand) == stand ? 1 : 0;
            return row;
        }

        int agree() {
            return best(new boolean[1 << weighed.size()], 1) == null ? 0 : 1;
        }

        int odds(int claim, int what) {
            if (!isClaim(claim) || !in(what, 0, 3)) return BAD;
            Fraction odds = best(showing(claim), what < 2 ? 1 : -1);
            if (odds == null) return STATE;
            return (what % 2 == 0 ? odds.above : odds.below).intValueExact();
        }

        int raise(int claim) {
            if (!isClaim(claim)) return BAD;
            boolean[] shows = showing(claim);
            Fraction least = best(shows, 1);
            if (least == null) return STATE;
            int answer = NONE;
            for (int[] w : weighed) {
                int low = w[1];
                w[1] = w[2];
                Fraction raised = best(shows, 1);
                w[1] = low;
                if (raised != null && raised.compareTo(least) > 0) {
                    least = raised;
                    answer = w[0];
                }
            }
            return answer;
        }

        private int timesPart(int n) {
            int many = 0;
            for (Step step : steps) if (step.parts.contains(n)) many++;
            return many;
        }

        int kind(int n) {
            if (!isNode(n)) return BAD;
            if (isClaim(n)) return timesPart(n) == 0 ? 4 : 3;
            return stands(n) ? 1 + nodes.get(n).sort : 5;
        }

        int as(int n, int kind) {
            if (!isNode(n) || !in(kind, 0, 5)) return BAD;
            int[] above = {-1, 0, 1, 0, 3, 1};
            for (int k = kind(n); k >= 0; k = above[k]) if (k == kind) return well(n);
            return found(3);
        }

        int ask(int n, int what) {
            if (!isNode(n) || !in(what, 0, 1)) return BAD;
            trace = new ArrayList<>();
            int[] size = {10, 11, 12, 13, 14, 15}, mark = {20, 20, 20, 21, 21, 22};
            return body(what == 0 ? size[kind(n)] : mark[kind(n)], n);
        }

        private int body(int number, int n) {
            trace.add(number);
            switch (number) {
                case 10: return timesPart(n);
                case 11: return body(10, n) + nodes.get(n).hand;
                case 12: return body(11, n) * 2;
                case 13: return body(10, n) + body(21, n);
                case 14: {
                    int many = body(13, n);
                    for (Step step : steps) if (step.claim == n) many++;
                    return many;
                }
                case 15: return 0 - body(11, n);
                case 20: return n;
                case 21: return body(20, n) + (shown(standing(), -1).contains(n) ? 100 : 0);
                default: return body(20, n) + theDay;
            }
        }

        int traceAt(int i) {
            return in(i, 0, trace.size() - 1) ? trace.get(i) : NONE;
        }

        int count(int what) {
            int laid = 0, claims = 0, open = 0, lost = 0;
            for (int[] sheet : sheets) if (sheet != null) laid++;
            for (int n = 0; n < nodes.size(); n++) {
                if (isClaim(n)) claims++;
                if (kind(n) == 5) lost++;
            }
            for (Step step : steps) for (int d : step.doubts) if (d == 0) open++;
            if (!in(what, 0, 7)) return BAD;
            return new int[] {laid, nodes.size(), claims, steps.size(), open, lost, weighed.size(), tape.size()}[what];
        }
    }

    private static final class Fraction implements Comparable<Fraction> {
        final BigInteger above, below;

        Fraction(long above, long below) {
            this(BigInteger.valueOf(above), BigInteger.valueOf(below));
        }

        Fraction(BigInteger a, BigInteger b) {
            BigInteger g = a.gcd(b);
            if (b.signum() < 0) g = g.negate();
            above = a.divide(g);
            below = b.divide(g);
        }

        Fraction plus(Fraction o) {
            return new Fraction(above.multiply(o.below).add(o.above.multiply(below)), below.multiply(o.below));
        }

        Fraction times(Fraction o) {
            return new Fraction(above.multiply(o.above), below.multiply(o.below));
        }

        Fraction over(Fraction o) {
            return new Fraction(above.multiply(o.below), below.multiply(o.above));
        }

        Fraction negated() {
            return new Fraction(above.negate(), below);
        }

        @Override
        public int compareTo(Fraction o) {
            return above.multiply(o.below).compareTo(o.above.multiply(below));
        }
    }

    /** Two phases over equalities with slack and artificial columns, the least number first. */
    private static final class Simplex {
        private final int shares;
        private final List<long[]> rows = new ArrayList<>();
        private final List<Integer> slacks = new ArrayList<>(), rights = new ArrayList<>();

        Simplex(int shares) {
            this.shares = shares;
        }

        /** slack 1: at most, -1: at least, 0: just. */
        void add(long[] row, int slack, int right) {
            rows.add(row);
            slacks.add(slack);
            rights.add(right);
        }

        void addSpan(long[] row, int low, int high) {
            add(row, 1, high);
            add(row, -1, low);
        }

        Fraction least(long[] cost) {
            int m = rows.size(), columns = shares + 2 * m;
            Fraction[][] t = new Fraction[m][columns + 1];
            int[] basis = new int[m];
            for (int r = 0; r < m; r++) {
                Arrays.fill(t[r], new Fraction(0, 1));
                for (int c = 0; c < shares; c++) t[r][c] = new Fraction(rows.get(r)[c], 1);
                t[r][shares + r] = new Fraction(slacks.get(r), 1);
                t[r][shares + m + r] = new Fraction(1, 1);
                t[r][columns] = new Fraction(rights.get(r), 1);
                basis[r] = shares + m + r;
            }
            Fraction[] first = costs(columns), second = costs(columns);
            for (int c = shares + m; c < columns; c++) first[c] = new Fraction(1, 1);
            for (int c = 0; c < shares; c++) second[c] = new Fraction(cost[c], 1);
            if (turn(t, basis, first, columns).above.signum() != 0) return null;
            return turn(t, basis, second, shares + m);
        }

        private Fraction[] costs(int columns) {
            Fraction[] costs = new Fraction[columns];
            Arrays.fill(costs, new Fraction(0, 1));
            return costs;
        }

        /** Columns from allowed on may only leave. Those at 0 that stay are driven along at 0, or out. */
        private Fraction turn(Fraction[][] t, int[] basis, Fraction[] cost, int allowed) {
            int right = cost.length;
            for (int r = 0; r < t.length; r++) {
                if (basis[r] < allowed) continue;
                for (int c = 0; c < allowed; c++) {
                    if (t[r][c].above.signum() != 0) {
                        pivot(t, basis, r, c);
                        break;
                    }
                }
            }
            while (true) {
                int enter = -1;
                for (int c = 0; c < allowed && enter < 0; c++) {
                    Fraction reduced = cost[c];
                    for (int r = 0; r < t.length; r++) reduced = reduced.plus(cost[basis[r]].times(t[r][c]).negated());
                    if (reduced.above.signum() < 0) enter = c;
                }
                if (enter < 0) break;
                int leave = -1;
                Fraction ratio = null;
                for (int r = 0; r < t.length; r++) {
                    if (t[r][enter].above.signum() <= 0) continue;
                    Fraction own = t[r][right].over(t[r][enter]);
                    if (leave < 0 || own.compareTo(ratio) < 0 || own.compareTo(ratio) == 0 && basis[r] < basis[leave]) {
                        leave = r;
                        ratio = own;
                    }
                }
                pivot(t, basis, leave, enter);
            }
            Fraction value = new Fraction(0, 1);
            for (int r = 0; r < t.length; r++) value = value.plus(cost[basis[r]].times(t[r][right]));
            return value;
        }

        private void pivot(Fraction[][] t, int[] basis, int row, int column) {
            Fraction by = t[row][column];
            for (int c = 0; c < t[row].length; c++) t[row][c] = t[row][c].over(by);
            for (int r = 0; r < t.length; r++) {
                if (r == row || t[r][column].above.signum() == 0) continue;
                Fraction factor = t[r][column].negated();
                for (int c = 0; c < t[r].length; c++) t[r][c] = t[r][c].plus(factor.times(t[row][c]));
            }
            basis[row] = column;
        }
    }
}
