import java.nio.charset.StandardCharsets;

/** For each promise of the document: ordinary inputs, the edges that it names, and wrong inputs. */
public final class PromiseTest {
    private static final int NONE = SafeNet.NONE, BAD = SafeNet.BAD, STATE = SafeNet.STATE, FULL = SafeNet.FULL;
    private static final int NULL = -1000011, PLACE = -1000012, KIND = -1000013, SIZE = -1000014, STORE = -1000015;
    private static final int FAULT_AT = -1000100;

    private static int wrong = 0;

    private static void due(int promise, String what, long got, long want) {
        if (got == want) return;
        wrong++;
        System.out.println("promise " + promise + ": " + what + " answered " + got + ", due is " + want);
    }

    /** Puts a text on the tape, eight bytes a call. */
    private static void put(SafeNet x, String text) {
        byte[] bytes = text.getBytes(StandardCharsets.ISO_8859_1);
        for (int i = 0; i < bytes.length; i += 8) {
            int n = Math.min(8, bytes.length - i);
            long w = 0;
            for (int k = 0; k < n; k++) w = w << 8 | bytes[i + k] & 255;
            x.feed(w, n);
        }
    }

    private static SafeNet of(String text) {
        SafeNet x = new SafeNet();
        put(x, text);
        x.net();
        return x;
    }

    /** The net of a text, with all doubts answered. */
    private static SafeNet sure(String text) {
        SafeNet x = of(text);
        answerAll(x);
        return x;
    }

    private static void answerAll(SafeNet x) {
        for (int s = 0; s < x.count(3); s++) {
            for (int k = 0; k < x.step(s, 3); k++) x.doubt(s, k, 1);
        }
    }

    private static void dueText(String text, int answer, int fault) {
        SafeNet x = new SafeNet();
        put(x, text);
        due(7, "net() of '" + text + "'", x.net(), answer);
        due(8, "fault() of '" + text + "'", x.fault(), fault);
        due(7, "the tape behind '" + text + "'", x.count(7), 0);
        if (fault != 0) {
            due(7, "nodes behind '" + text + "'", x.count(1), 0);
            due(7, "steps behind '" + text + "'", x.count(3), 0);
        }
    }

    private static void dueFault(String text, int place, int fault) {
        dueText(text, FAULT_AT - place, fault);
    }

    private static void dueOdds(String what, SafeNet x, int claim, int... want) {
        for (int k = 0; k < 4; k++) due(25, "odds(" + claim + ", " + k + ") " + what, x.odds(claim, k), want[k]);
    }

    public static void main(String[] args) {
        newObject();
        sheets();
        feeding();
        texts();
        faults();
        room();
        nodesAndSteps();
        doubts();
        days();
        standing();
        circles();
        leaning();
        felling();
        hands();
        weighing();
        odds();
        raising();
        kinds();
        asks();
        counts();
        statuses();
        System.out.println(wrong == 0 ? "all answers are as due" : wrong + " answers are not as due");
        if (wrong != 0) System.exit(1);
    }

    private static void newObject() {
        SafeNet x = new SafeNet();
        for (int what = 0; what < 8; what++) due(1, "count(" + what + ")", x.count(what), 0);
        due(1, "fault()", x.fault(), 0);
        due(1, "status()", x.status(), 0);
        due(1, "trace(0)", x.trace(0), NONE);
        due(1, "hand()", x.hand(), NONE);
        due(1, "agree()", x.agree(), 1);
        due(1, "day(0)", x.day(0), 0);
        due(1, "unweigh()", x.unweigh(), 0);
        for (int sheet = 0; sheet < 8; sheet++) due(1, "drop(" + sheet + ")", x.drop(sheet), NULL);
        due(1, "node(0, 0)", x.node(0, 0), BAD);
        due(1, "step(0, 0)", x.step(0, 0), BAD);
    }

    private static void sheets() {
        SafeNet x = new SafeNet();
        due(2, "an empty sheet", x.sheet(7, 2, 0), 0);
        due(2, "a full sheet", x.sheet(0, 0, 40), 40);
        due(2, "sheet 8", x.sheet(8, 0, 1), BAD);
        due(2, "sheet -1", x.sheet(-1, 0, 1), BAD);
        due(2, "lane 3", x.sheet(1, 3, 1), BAD);
        due(2, "lane -1", x.sheet(1, -1, 1), BAD);
        due(2, "41 items", x.sheet(1, 0, 41), BAD);
        due(2, "-1 items", x.sheet(0, 1, -1), SIZE);
        due(2, "least items", x.sheet(0, 1, Integer.MIN_VALUE), SIZE);
        due(2, "-1 items of lane 3", x.sheet(0, 3, -1), BAD);
        due(2, "a sheet stays, where the size is found", x.set(0, 39, 300), 44);
        due(2, "a sheet in place of it", x.sheet(0, 1, 2), 2);
        due(2, "its items", x.copy(0, 0, 0, 1, 1), 1);
        due(2, "sheets", x.count(0), 2);

        due(3, "a short", x.set(0, 0, 70000), 4464);
        due(3, "a short below 0", x.set(0, 1, 40000), -25536);
        x.sheet(1, 0, 3);
        due(3, "a byte", x.set(1, 0, 127), 127);
        due(3, "a byte below 0", x.set(1, 1, 128), -128);
        due(3, "a byte of -257", x.set(1, 2, -257), -1);
        x.sheet(2, 2, 1);
        due(3, "an int", x.set(2, 0, Integer.MIN_VALUE), Integer.MIN_VALUE);
        due(3, "sheet 8", x.set(8, 0, 0), BAD);
        due(3, "sheet -1", x.set(-1, 0, 0), BAD);
        due(3, "a missing sheet", x.set(3, -1, 0), NULL);
        due(3, "place -1", x.set(2, -1, 0), PLACE);
        due(3, "place 1", x.set(2, 1, 0), PLACE);
        due(3, "place of an empty sheet", x.set(7, 0, 0), PLACE);
        copies();
        drops();
    }

    /** Items can only be read by looks at days, so days of leaf 0 and 1 tell them. */
    private static void copies() {
        SafeNet x = of("leaf 1; leaf 2;");
        x.sheet(0, 2, 6);
        int[] items = {0, 11, 12, 1, 13, 14};
        for (int i = 0; i < 6; i++) x.set(0, i, items[i]);
        x.sheet(1, 2, 9);
        due(4, "copy", x.copy(0, 0, 1, 3, 6), 6);
        x.looked(1, 3, 2);
        due(4, "what came", x.node(0, 2), 11);
        due(4, "what came", x.node(0, 3), 12);
        due(4, "what came", x.node(1, 2), 13);
        due(4, "what came", x.node(1, 3), 14);
        due(4, "copy onto itself, up", x.copy(1, 3, 1, 4, 5), 5);
        due(4, "what moved up", x.looked(1, 4, 1), 1);
        due(4, "what moved up", x.node(0, 3), 12);
        due(4, "copy onto itself, down", x.copy(1, 4, 1, 0, 5), 5);
        due(4, "what moved down", x.looked(1, 0, 1), 1);
        due(4, "what moved down", x.set(1, 3, 1), 1);
        due(4, "what moved down", x.looked(1, 3, 1), 1);
        due(4, "what moved down", x.node(1, 2), 13);
        x.sheet(1, 2, 9);
        due(2, "items are 0 at first", x.looked(1, 0, 1), 1);
        due(2, "items are 0 at first", x.node(0, 2), 0);
        due(2, "items are 0 at first", x.node(0, 3), 0);
        due(4, "none", x.copy(0, 6, 1, 9, 0), 0);
        due(4, "none, beyond", x.copy(0, 7, 1, 9, 0), PLACE);
        due(4, "beyond the end of a", x.copy(0, 1, 1, 0, 6), PLACE);
        due(4, "beyond the end of b", x.copy(0, 0, 1, 4, 6), PLACE);
        due(4, "i below 0", x.copy(0, -1, 1, 0, 1), PLACE);
        due(4, "j below 0", x.copy(0, 0, 1, -1, 1), PLACE);
        due(4, "n below 0", x.copy(0, 0, 1, 0, -1), PLACE);
        due(4, "great numbers", x.copy(0, Integer.MAX_VALUE, 1, Integer.MAX_VALUE, Integer.MAX_VALUE), PLACE);
        due(4, "sheet 8", x.copy(8, 0, 1, 0, 1), BAD);
        due(4, "sheet -1", x.copy(0, 0, -1, 0, 1), BAD);
        due(4, "a missing", x.copy(2, -1, 1, 0, 1), NULL);
        due(4, "b missing", x.copy(0, -1, 2, 0, 1), NULL);
        x.sheet(2, 1, 6);
        due(4, "two lanes ahead of no place", x.copy(0, -1, 2, 0, 1), STORE);
        due(4, "two lanes of no items", x.copy(0, 0, 2, 0, 0), STORE);
    }

    private static void drops() {
        SafeNet x = new SafeNet();
        x.sheet(3, 1, 17);
        x.sheet(4, 1, 0);
        due(5, "drop", x.drop(3), 17);
        due(5, "drop anew", x.drop(3), NULL);
        due(5, "drop of an empty one", x.drop(4), 0);
        due(5, "sheets", x.count(0), 0);
        due(5, "sheet 8", x.drop(8), BAD);
        due(5, "sheet -1", x.drop(-1), BAD);
        x.sheet(3, 2, 1);
        due(5, "a new one in its place", x.drop(3), 1);
    }

    private static void feeding() {
        SafeNet x = new SafeNet();
        due(6, "no byte", x.feed(0L, 0), BAD);
        due(6, "nine bytes", x.feed(0L, 9), BAD);
        due(6, "-1 bytes", x.feed(0L, -1), BAD);
        due(6, "one byte", x.feed(0x1122334455667763L, 1), 1);
        due(6, "four bytes", x.feed(0x112233446C61696DL, 4), 5);
        due(6, "one more", x.feed(';', 1), 6);
        due(6, "the highest of the lowest first", x.net(), 1);
        for (int i = 1; i <= 49; i++) due(6, "eight bytes", x.feed(-1L, 8), 8 * i);
        due(6, "to 399", x.feed(0L, 7), 399);
        due(6, "two more", x.feed(0L, 2), FULL);
        due(6, "none came", x.count(7), 399);
        due(6, "to 400", x.feed(0L, 1), 400);
        due(6, "one more", x.feed(0L, 1), FULL);
        due(6, "nine of a full tape", x.feed(0L, 9), BAD);
        due(6, "bytes of -1", x.net(), FAULT_AT);
        due(6, "empty then", x.feed(0L, 3), 3);
    }

    private static void texts() {
        dueText("", 0, 0);
        dueText(" \n ", 0, 0);
        dueText("leaf3;given\n0009;claim;", 3, 0);
        dueText("claim;step all0 0;", 1, 0);
        dueText(" claim \n;\n step\n any 0 0 ; ", 1, 0);
        dueText("claim;leaf 0;leaf 0;leaf 0;leaf 0;leaf 0;step most 0 0 1 2 3 4 5;", 6, 0);
        SafeNet x = of("leaf 3;claim;");
        put(x, "given 4;step like 1 2 0;claim;step all 3 1;");
        due(7, "a text behind another", x.net(), 4);
        due(7, "its given", x.node(2, 0), 1);
        due(7, "its step", x.part(0, 0), 2);
        due(7, "its step", x.step(1, 1), 3);
        put(x, "leaf 1;step all 3 2 9;");
        due(7, "a fault behind", x.net(), FAULT_AT - 20);
        due(7, "nothing came", x.count(1), 4);
        due(7, "nothing came", x.count(3), 2);
        due(8, "it stays", x.net(), 4);
        due(8, "it stays", x.fault(), 2);
        put(x, "leaf 5;step any 1 4 2 3;");
        due(7, "in its place", x.net(), 5);
        due(7, "in its place", x.node(4, 1), 5);
        due(7, "in its place", x.step(2, 2), 3);
        due(7, "in its place", x.part(2, 1), 2);
    }

    private static void faults() {
        dueFault("leaf", 4, 1);
        dueFault("leaf ", 5, 1);
        dueFault("leaf 1 \n", 8, 1);
        dueFault("claim", 5, 1);
        dueFault("claim;step all 0 0", 18, 1);
        dueFault("leaf 10;", 5, 2);
        dueFault("leaf 9999;", 5, 2);
        dueFault("leaf 00001;", 5, 1);
        dueFault("leaf 12345", 5, 1);
        dueFault("leaf a;", 5, 1);
        dueFault("leaf ;", 5, 1);
        dueFault("leafs 1;", 0, 1);
        dueFault("leafz 1;", 0, 1);
        dueFault("aleaf 1;", 0, 1);
        dueFault("xeaf 1;", 0, 1);
        dueFault("lea 1;", 0, 1);
        dueFault("leaf`1;", 4, 1);
        dueFault("leaf{1;", 4, 1);
        dueFault("leaf/1;", 4, 1);
        dueFault("leaf:1;", 4, 1);
        dueFault("Leaf 1;", 0, 1);
        dueFault("leaf" + (char) 233 + "1;", 4, 1);
        dueFault("leaf\t1;", 4, 1);
        dueFault("claim;\0", 6, 1);
        dueFault("claim:", 5, 1);
        dueFault(";", 0, 1);
        dueFault("7;", 0, 1);
        dueFault("all;", 0, 1);
        dueFault("leaf 1claim;", 6, 1);
        dueFault("leaf 1 2;", 7, 1);
        dueFault("claim;step", 10, 1);
        dueFault("claim;step 0 0;", 11, 1);
        dueFault("claim;step alls 0 0;", 11, 1);
        dueFault("claim;step leaf 0 0;", 11, 1);
        dueFault("claim;step all;", 14, 1);
        dueFault("claim;step all all 0;", 15, 1);
        dueFault("claim;step all 0;", 16, 1);
        dueFault("claim;step all 0 00000;", 17, 1);
        dueFault("claim;step all 1 0;", 15, 2);
        dueFault("leaf 1;claim;step all 0 0;", 22, 2);
        dueFault("given 1;claim;step all 0 0;", 23, 2);
        dueFault("claim;step all 0 0 0000;", 19, 2);
        dueFault("claim;step all 0 1;leaf 1;", 17, 2);
        dueFault("step all 0 0;claim;", 9, 2);
        dueFault("claim;step all 0 0 leaf;", 19, 1);
        dueFault("leaf 10;xx", 5, 2);
        String seven = "claim;leaf 0;leaf 0;leaf 0;leaf 0;leaf 0;leaf 0;step any 0 1 2 3 4 5 6 ";
        dueFault(seven + "0;", 71, 3);
        dueFault(seven + "6;", 71, 2);
        dueFault(seven + "7;", 71, 2);
        dueFault(seven + "00000;", 71, 1);
        dueFault(seven + "any;", 71, 1);
        dueText(seven + ";", 7, 0);
        SafeNet x = new SafeNet();
        due(8, "before one", x.fault(), 0);
        put(x, "leaf 10;");
        x.net();
        put(x, "claim");
        x.net();
        due(8, "the latest", x.fault(), 1);
        put(x, "claim;");
        x.net();
        due(8, "still the latest", x.fault(), 1);
    }

    private static void room() {
        SafeNet x = of("claim;".repeat(19));
        put(x, "leaf 1;leaf x");
        due(7, "node 20", x.net(), FAULT_AT - 7);
        due(8, "node 20", x.fault(), 3);
        put(x, "leaf 1;");
        due(7, "node 19", x.net(), 20);
        for (String word : new String[] {"leaf", "given", "claim"}) {
            put(x, word);
            due(7, word, x.net(), FAULT_AT);
            due(8, word, x.fault(), 3);
        }
        put(x, "step any 0 0;".repeat(15));
        due(7, "15 steps", x.net(), 20);
        put(x, "step any 1 1;step");
        due(7, "step 16", x.net(), FAULT_AT - 13);
        due(8, "step 16", x.fault(), 3);
        put(x, "step like 1 2;");
        due(7, "step 15", x.net(), 20);
        due(7, "steps", x.count(3), 16);
        due(10, "step 15", x.step(15, 0), 3);
        put(x, "leaf");
        due(7, "a word that cannot stand there", of("leaf leaf").fault(), 1);
    }

    private static void nodesAndSteps() {
        SafeNet x = of("leaf 3;given 9;claim;claim;step most 2 1 0 2;step all 3 2;");
        int[][] want = {{0, 3, 0, 9999, 0, 1}, {1, 9, 0, 9999, 0, 1}, {2, NONE, NONE, NONE, 0, 0}};
        for (int n = 0; n < 3; n++) {
            for (int what = 0; what < 6; what++) due(9, "node(" + n + ", " + what + ")", x.node(n, what), want[n][what]);
        }
        x.fall(0, 1);
        due(9, "fallen", x.node(0, 4), 1);
        due(9, "fallen, not shown", x.node(0, 5), 0);
        for (int bad : new int[] {-1, 4, 20, Integer.MAX_VALUE}) due(9, "node " + bad, x.node(bad, 0), BAD);
        due(9, "what -1", x.node(0, -1), BAD);
        due(9, "what 6", x.node(2, 6), BAD);

        int[] step = {2, 2, 3, 2, 2, 0};
        for (int what = 0; what < 6; what++) due(10, "step(0, " + what + ")", x.step(0, what), step[what]);
        x.fall(0, 0);
        due(10, "borne up with doubts open", x.step(0, 5), 1);
        due(10, "borne up by no claim", x.step(1, 5), 0);
        x.doubt(0, 0, 1);
        x.doubt(0, 1, 1);
        due(10, "borne up by a claim", x.step(1, 5), 1);
        for (int bad : new int[] {-1, 2, 16}) due(10, "step " + bad, x.step(bad, 0), BAD);
        due(10, "what -1", x.step(0, -1), BAD);
        due(10, "what 6", x.step(0, 6), BAD);

        due(11, "part 0", x.part(0, 0), 1);
        due(11, "part 1", x.part(0, 1), 0);
        due(11, "part 2", x.part(0, 2), 2);
        due(11, "part 3", x.part(0, 3), NONE);
        due(11, "part of the next step", x.part(1, 1), NONE);
        due(11, "a far part", x.part(0, Integer.MAX_VALUE), NONE);
        due(11, "part -1", x.part(0, -1), BAD);
        due(11, "step 2", x.part(2, 0), BAD);
        due(11, "step -1", x.part(-1, 0), BAD);
    }

    private static void doubts() {
        SafeNet x = of("claim;step all 0 0;step any 0 0;step most 0 0;step like 0 0;");
        int[] many = {2, 1, 2, 3};
        for (int s = 0; s < 4; s++) {
            due(12, "doubts", x.step(s, 3), many[s]);
            due(12, "one too many", x.doubt(s, many[s], 1), BAD);
            due(12, "one below 0", x.doubt(s, -1, 1), BAD);
        }
        due(12, "open doubts", x.count(4), 8);
        due(12, "answered", x.doubt(3, 2, 1), 0);
        due(12, "borne", x.doubt(3, 2, 2), 1);
        due(12, "borne", x.doubt(3, 2, 11), 2);
        due(12, "open", x.step(3, 4), 2);
        due(12, "open anew", x.doubt(3, 2, 0), 11);
        due(12, "open still", x.doubt(3, 2, 0), 0);
        due(12, "open", x.step(3, 4), 3);
        due(12, "how 12", x.doubt(0, 0, 12), BAD);
        due(12, "how -1", x.doubt(0, 0, -1), BAD);
        due(12, "step 4", x.doubt(4, 0, 0), BAD);
        due(12, "step -1", x.doubt(-1, 0, 0), BAD);
        x.doubt(0, 0, 5);
        x.doubt(1, 0, 5);
        x.doubt(2, 1, 2);
        due(13, "hand 3", x.borne(3), 2);
        due(13, "hand 0", x.borne(0), 1);
        due(13, "hand 9", x.borne(9), 0);
        due(13, "hand 10", x.borne(10), BAD);
        due(13, "hand -1", x.borne(-1), BAD);
        x.doubt(0, 0, 0);
        due(13, "open anew", x.borne(3), 1);
    }

    private static void days() {
        SafeNet x = of("leaf 1;given 2;claim;");
        x.sheet(0, 1, 25);
        int[] items = {7, 0, 5, 10, 1, 9999, 0};
        for (int i = 0; i < 7; i++) x.set(0, i, items[i]);
        due(14, "two", x.looked(0, 1, 2), 2);
        due(14, "its day", x.node(0, 2), 5);
        due(14, "good for", x.node(0, 3), 10);
        due(14, "its day", x.node(1, 2), 9999);
        due(14, "good for", x.node(1, 3), 0);
        due(14, "sheet 8", x.looked(8, 0, 1), BAD);
        due(14, "sheet -1", x.looked(-1, 0, 1), BAD);
        due(14, "none", x.looked(0, 0, 0), BAD);
        due(14, "nine", x.looked(0, 0, 9), BAD);
        due(14, "nine of a missing sheet", x.looked(1, 0, 9), BAD);
        due(14, "a missing sheet", x.looked(1, -1, 1), NULL);
        due(14, "place -1", x.looked(0, -1, 1), PLACE);
        due(14, "beyond", x.looked(0, 2, 8), PLACE);
        due(14, "far beyond", x.looked(0, Integer.MAX_VALUE, 8), PLACE);
        due(14, "no such node", x.looked(0, 0, 1), BAD);
        due(14, "eight of one", x.looked(0, 7, 6), 6);
        due(14, "its day", x.node(0, 3), 0);
        wrongLooks(x);

        due(15, "falls", x.fall(0, 1), 0);
        due(15, "is fallen", x.fall(0, 1), 1);
        due(15, "is not", x.fall(0, 0), 1);
        due(15, "a given", x.fall(1, 1), 0);
        due(15, "a claim", x.fall(2, 1), BAD);
        due(15, "is 2", x.fall(0, 2), BAD);
        due(15, "is -1", x.fall(0, -1), BAD);
        due(15, "node 3", x.fall(3, 1), BAD);
        due(15, "node -1", x.fall(-1, 1), BAD);

        due(16, "day", x.day(9999), 0);
        due(16, "day", x.day(10000), BAD);
        due(16, "day", x.day(-1), BAD);
        due(16, "day", x.day(3), 9999);
        oldOnes();
    }

    private static void wrongLooks(SafeNet x) {
        int[][] wrongs = {{2, 0, 0}, {3, 0, 0}, {-1, 0, 0}, {0, -1, 0}, {0, 10000, 0}, {0, 0, -1}, {0, 0, 10000}};
        for (int[] items : wrongs) {
            x.set(0, 0, 1);
            x.set(0, 1, 77);
            x.set(0, 2, 78);
            for (int i = 0; i < 3; i++) x.set(0, 3 + i, items[i]);
            due(14, "a wrong item", x.looked(0, 0, 2), BAD);
            due(14, "nothing is told", x.node(1, 2), 9999);
        }
    }

    private static void oldOnes() {
        SafeNet x = of("leaf 1;");
        x.sheet(0, 2, 3);
        x.set(0, 1, 100);
        x.set(0, 2, 50);
        x.looked(0, 0, 1);
        int[] days = {0, 100, 150, 151, 9999}, stands = {1, 1, 1, 0, 0};
        for (int i = 0; i < 5; i++) {
            x.day(days[i]);
            due(16, "stands on day " + days[i], x.node(0, 5), stands[i]);
        }
        x.day(150);
        x.fall(0, 1);
        due(15, "stands fallen", x.node(0, 5), 0);
    }

    private static void standing() {
        String leaves = "leaf 0;leaf 0;leaf 0;leaf 0;claim;";
        String[] forms = {"all", "any", "most", "like"};
        for (int f = 0; f < 4; f++) {
            SafeNet x = sure(leaves + "step " + forms[f] + " 4 2 0 1 3;");
            for (int fallen = 0; fallen < 16; fallen++) {
                for (int n = 0; n < 4; n++) x.fall(n, fallen >> n & 1);
                int stand = 4 - Integer.bitCount(fallen);
                boolean[] borne = {stand == 4, stand > 0, stand > 2, (fallen & 4) == 0};
                due(17, forms[f] + " with " + fallen + " fallen", x.shown(0), borne[f] ? 16 : 0);
            }
        }
        SafeNet x = sure("leaf 0;claim;claim;claim;step any 1 2;step any 2 3;step any 3 0;step any 1 1;");
        due(17, "a chain", x.shown(0), 14);
        due(17, "its rounds", x.shown(1), 3);
        x.doubt(1, 0, 0);
        due(17, "a doubt open", x.shown(0), 8);
        due(17, "its rounds", x.shown(1), 1);
        x.doubt(1, 0, 4);
        due(17, "a doubt borne", x.shown(0), 14);
        x.fall(0, 1);
        due(17, "nothing", x.shown(0), 0);
        due(17, "no rounds", x.shown(1), 0);
        due(17, "what 3", x.shown(3), BAD);
        due(17, "what -1", x.shown(-1), BAD);
        SafeNet first = sure("claim;leaf 0;leaf 4;step any 0 1;");
        due(17, "claim 0", first.shown(0), 1);
        due(17, "claim 0", first.shown(1), 1);
        due(9, "claim 0", first.node(0, 5), 1);
        due(18, "claim 0", first.leaning(1), 1);
        due(19, "claim 0", first.felling(0, -1), 1);
        due(19, "claim 0", first.felling(0, 0), 2);
        due(20, "claim 0", first.hand(), 0);
        due(25, "claim 0", first.odds(0, 0), 1);
        due(31, "claim 0", first.count(2), 1);
        SafeNet alone = sure("claim;step any 0 0;step like 0 0;");
        due(17, "by itself alone", alone.shown(0), 0);
        SafeNet half = sure("leaf 0;leaf 0;claim;step most 2 0 1;");
        half.fall(0, 1);
        due(17, "half is not most", half.shown(0), 0);
    }

    private static void circles() {
        SafeNet x = of("claim;".repeat(7) + "leaf 1;step all 0 1;step any 1 2 7;step like 2 7 0;step all 3 0;step most 4 4;step all 5 6;");
        due(17, "circles", x.shown(2), 0b10111);
        due(17, "a circle by one of two steps", of("claim;claim;leaf 0;step any 0 1;step all 0 2;step like 1 2 0;").shown(2), 3);
        due(17, "no circle", of("claim;claim;claim;step all 0 1 2;step all 1 2;").shown(2), 0);
        due(17, "a circle down the numbers", of("claim;claim;claim;step all 2 1;step all 1 0;step all 0 2;").shown(2), 7);
    }

    private static void leaning() {
        SafeNet x = sure("leaf 0;given 0;claim;claim;claim;step all 2 0;step any 3 2 1;step all 4 3;step like 4 2;");
        due(18, "leaf 0", x.leaning(0), 4);
        due(18, "given 1", x.leaning(1), 0);
        due(18, "claim 2", x.leaning(2), 0);
        due(18, "claim 3", x.leaning(3), 0);
        x.fall(1, 1);
        due(18, "leaf 0", x.leaning(0), 28);
        due(18, "a fallen one", x.leaning(1), 0);
        due(18, "claim 2", x.leaning(2), 24);
        due(18, "claim 3", x.leaning(3), 0);
        due(18, "claim 4", x.leaning(4), 0);
        x.doubt(3, 0, 0);
        due(18, "claim 3 with a doubt open", x.leaning(3), 16);
        x.fall(0, 1);
        due(18, "nothing is shown", x.leaning(2), 0);
        due(18, "node 5", x.leaning(5), BAD);
        due(18, "node -1", x.leaning(-1), BAD);
        SafeNet circle = sure("leaf 0;claim;claim;step any 1 0 2;step any 2 1;");
        due(18, "not itself, round a circle", circle.leaning(1), 4);
    }

    private static void felling() {
        SafeNet x = sure("leaf 0;leaf 0;leaf 0;leaf 0;leaf 0;claim;claim;step most 5 0 1 2 3 4;step any 6 0 1 2 3;");
        int[] threes = {7, 11, 13, 14, 19, 21, 22, 25, 26, 28};
        due(19, "threes of five", x.felling(5, -1), 10);
        for (int i = 0; i < 10; i++) due(19, "the threes", x.felling(5, i), threes[i]);
        due(19, "no more", x.felling(5, 10), NONE);
        due(19, "far more", x.felling(5, Integer.MAX_VALUE), NONE);
        due(19, "four are too many", x.felling(6, -1), 0);
        due(19, "four are too many", x.felling(6, 0), NONE);
        x.fall(2, 1);
        due(19, "those that stand", x.felling(6, 0), 11);
        due(19, "twos of four", x.felling(5, -1), 6);
        due(19, "twos of four", x.felling(5, 5), 24);
        due(19, "i below -1", x.felling(5, -2), BAD);
        due(19, "a leaf", x.felling(0, 0), BAD);
        due(19, "node 7", x.felling(7, 0), BAD);
        due(19, "node -1", x.felling(-1, -1), BAD);
        x.fall(0, 1);
        x.fall(1, 1);
        due(19, "not shown", x.felling(5, -1), STATE);
        due(19, "not shown, i below -1", x.felling(5, -2), BAD);
        SafeNet mixed = sure("leaf 0;leaf 0;leaf 0;leaf 0;leaf 0;leaf 0;claim;claim;claim;"
            + "step any 6 0 1 5;step any 7 2 4;step all 8 3 7 6;");
        SafeNet ones = sure("leaf 0;leaf 0;leaf 0;claim;step all 3 2 1 0;");
        int[] oneByOne = {1, 2, 4, NONE};
        due(19, "ones", ones.felling(3, -1), 3);
        for (int i = 0; i < 4; i++) due(19, "ones", ones.felling(3, i), oneByOne[i]);
        SafeNet twos = sure("leaf 0;leaf 0;leaf 0;claim;claim;step any 3 1 0;step any 4 2;step all 4 3;");
        int[] twoByTwo = {5, 6, NONE};
        twos.fall(1, 1);
        due(19, "twos", twos.felling(4, -1), 1);
        twos.fall(1, 0);
        due(19, "threes", twos.felling(4, -1), 1);
        due(19, "threes", twos.felling(4, 0), 7);
        SafeNet both = sure("leaf 0;leaf 0;leaf 0;claim;claim;step all 3 1 0;step any 4 2 3;");
        due(19, "twos", both.felling(4, -1), 2);
        for (int i = 0; i < 3; i++) due(19, "twos", both.felling(4, i), twoByTwo[i]);
        int[] sets = {8, 20, 35, NONE};
        due(19, "mixed", mixed.felling(8, -1), 3);
        for (int i = 0; i < 4; i++) due(19, "mixed", mixed.felling(8, i), sets[i]);
    }

    private static void hands() {
        SafeNet x = sure("leaf 7;leaf 2;given 7;claim;claim;claim;step any 3 0 2;step all 4 1;step all 5 3;");
        due(20, "two of one", x.hand(), 7);
        x.fall(2, 1);
        due(20, "those that stand", x.hand(), 7);
        x.fall(0, 1);
        due(20, "one claim", x.hand(), 2);
        x.fall(0, 0);
        x.doubt(2, 0, 0);
        due(20, "of several the least", x.hand(), 2);
        x.fall(0, 1);
        x.fall(1, 1);
        due(20, "no claim", x.hand(), NONE);
        due(20, "no claim falls", sure("leaf 1;leaf 2;claim;step any 2 0 1;").hand(), NONE);
        due(20, "hand 0", sure("leaf 0;claim;step any 1 0;").hand(), 0);
        due(20, "hand 9", sure("given 9;claim;step any 1 0;").hand(), 9);
    }

    private static void weighing() {
        SafeNet x = of("leaf 0;given 0;leaf 0;leaf 0;claim;");
        due(21, "a claim", x.weigh(4, 0, 0), BAD);
        due(21, "node 5", x.weigh(5, 0, 0), BAD);
        due(21, "node -1", x.weigh(-1, 0, 0), BAD);
        due(21, "low below 0", x.weigh(0, -1, 0), BAD);
        due(21, "high above 100", x.weigh(0, 0, 101), BAD);
        due(21, "high below low", x.weigh(0, 51, 50), BAD);
        due(21, "one", x.weigh(1, 0, 100), 1);
        due(21, "it is", x.weigh(1, 0, 100), STATE);
        due(21, "it is, with a wrong span", x.weigh(1, 2, 1), BAD);
        due(22, "one alone", x.pair(0, 1, 0, 100), BAD);
        due(21, "two", x.weigh(3, 50, 50), 2);
        due(21, "three", x.weigh(0, 100, 100), 3);
        due(21, "a fourth", x.weigh(2, 0, 0), FULL);
        due(21, "one that is, of a full row", x.weigh(3, 0, 0), STATE);
        due(21, "a claim of a full row", x.weigh(4, 0, 0), BAD);
        due(22, "a pair", x.pair(0, 2, 0, 100), 1);
        due(22, "told anew", x.pair(2, 0, 10, 10), 1);
        due(22, "alike", x.pair(1, 1, 0, 100), BAD);
        due(22, "-1", x.pair(-1, 1, 0, 100), BAD);
        due(22, "3", x.pair(1, 3, 0, 100), BAD);
        due(22, "low below 0", x.pair(0, 1, -1, 100), BAD);
        due(22, "high above 100", x.pair(0, 1, 0, 101), BAD);
        due(22, "high below low", x.pair(0, 1, 60, 59), BAD);
        due(23, "unweigh", x.unweigh(), 3);
        due(23, "unweigh anew", x.unweigh(), 0);
        due(23, "it is no more", x.weigh(1, 0, 0), 1);

        SafeNet y = of("leaf 0;leaf 0;leaf 0;");
        y.weigh(0, 60, 60);
        y.weigh(1, 60, 60);
        due(24, "without pairs", y.agree(), 1);
        y.weigh(2, 0, 0);
        y.pair(1, 2, 1, 100);
        due(24, "a hundredth of none", y.agree(), 0);
        y.pair(1, 2, 0, 100);
        due(24, "none of none", y.agree(), 1);
        y.unweigh();
        y.weigh(0, 60, 60);
        y.weigh(1, 60, 60);
        y.pair(0, 1, 0, 19);
        due(24, "60 and 60 share 20", y.agree(), 0);
        y.pair(1, 0, 0, 20);
        due(24, "told anew", y.agree(), 1);
        y.pair(0, 1, 61, 100);
        due(24, "more than each", y.agree(), 0);
        due(23, "pairs go too", y.unweigh(), 2);
        y.weigh(0, 60, 60);
        y.weigh(1, 60, 60);
        due(23, "pairs are gone", y.agree(), 1);
        y.weigh(2, 60, 60);
        y.pair(0, 1, 20, 20);
        y.pair(0, 2, 20, 20);
        y.pair(1, 2, 20, 20);
        due(24, "all but 20 twice", y.agree(), 0);
        y.pair(1, 2, 40, 40);
        due(24, "40 of the third", y.agree(), 1);
    }

    private static void odds() {
        SafeNet x = sure("leaf 0;leaf 0;leaf 0;claim;claim;claim;claim;"
            + "step all 3 0 1 2;step any 4 0 1 2;step most 5 0 1 2;step all 6 3;step like 6 5;");
        dueOdds("none weighed", x, 3, 1, 1, 1, 1);
        x.fall(0, 1);
        dueOdds("none weighed, not shown", x, 3, 0, 1, 0, 1);
        x.weigh(0, 50, 50);
        dueOdds("a fallen one weighed", x, 3, 1, 2, 1, 2);
        dueOdds("a fallen one weighed", x, 4, 1, 1, 1, 1);
        x.weigh(2, 50, 50);
        x.weigh(1, 50, 50);
        dueOdds("three halves", x, 3, 0, 1, 1, 2);
        dueOdds("three halves", x, 4, 1, 2, 1, 1);
        dueOdds("three halves", x, 5, 1, 4, 3, 4);
        dueOdds("three halves", x, 6, 1, 4, 3, 4);
        x.pair(0, 1, 25, 25);
        x.pair(0, 2, 25, 25);
        x.pair(1, 2, 25, 25);
        dueOdds("two by two unbound", x, 3, 0, 1, 1, 4);
        dueOdds("two by two unbound", x, 4, 3, 4, 1, 1);
        dueOdds("two by two unbound", x, 5, 1, 4, 3, 4);
        x.unweigh();
        x.weigh(0, 33, 33);
        x.weigh(1, 33, 33);
        x.weigh(2, 33, 35);
        dueOdds("thirds", x, 4, 33, 100, 1, 1);
        dueOdds("thirds", x, 5, 0, 1, 101, 200);
        x.unweigh();
        x.weigh(0, 55, 55);
        x.weigh(1, 50, 50);
        x.weigh(2, 50, 50);
        dueOdds("not in hundredths", x, 5, 11, 40, 31, 40);
        x.pair(1, 2, 1, 30);
        dueOdds("a pair of the last two", x, 5, 11, 40, 31, 40);
        x.pair(1, 2, 48, 49);
        dueOdds("a pair of the last two", x, 5, 12, 25, 13, 25);
        dueOdds("a pair of the last two", x, 3, 3, 100, 49, 100);
        x.pair(0, 1, 60, 60);
        due(25, "not agreed", x.odds(3, 0), STATE);
        due(25, "not agreed", x.odds(3, 3), STATE);
        due(25, "not agreed, what 4", x.odds(3, 4), BAD);
        due(25, "what -1", x.odds(3, -1), BAD);
        due(25, "a leaf", x.odds(0, 0), BAD);
        due(25, "node 7", x.odds(7, 0), BAD);
        due(25, "node -1", x.odds(-1, 0), BAD);
    }

    private static void raising() {
        SafeNet x = sure("leaf 0;leaf 0;leaf 0;claim;claim;step all 3 0 1;step any 4 0 1;");
        due(26, "none weighed", x.raise(3), NONE);
        x.weigh(1, 60, 80);
        x.weigh(0, 60, 80);
        due(26, "alike: the first", x.raise(3), 1);
        due(26, "alike: the first", x.raise(4), 1);
        x.weigh(2, 0, 100);
        due(26, "one that does not matter", x.raise(3), 1);
        x.pair(0, 1, 0, 50);
        due(26, "of those that agree", x.raise(3), 1);
        x.pair(0, 1, 0, 30);
        due(26, "where they would not agree", x.raise(3), NONE);
        x.pair(0, 1, 0, 10);
        due(26, "not agreed", x.raise(3), STATE);
        due(26, "a leaf", x.raise(0), BAD);
        due(26, "node 5", x.raise(5), BAD);
        due(26, "node -1", x.raise(-1), BAD);
        x.unweigh();
        x.weigh(1, 60, 70);
        x.weigh(0, 60, 71);
        due(26, "the most", x.raise(3), 0);
        x.unweigh();
        x.weigh(1, 100, 100);
        x.weigh(0, 40, 40);
        due(26, "none rises", x.raise(3), NONE);
    }

    private static void kinds() {
        SafeNet x = of("leaf 1;given 2;claim;claim;claim;step all 3 2;step any 4 4;");
        int[] kinds = {1, 2, 3, 4, 3};
        int[][] taken = {{1, 1, 0, 0, 0, 0}, {1, 1, 1, 0, 0, 0}, {1, 0, 0, 1, 0, 0}, {1, 0, 0, 1, 1, 0}, {1, 0, 0, 1, 0, 0}};
        for (int n = 0; n < 5; n++) {
            due(27, "node " + n, x.kind(n), kinds[n]);
            for (int k = 0; k < 6; k++) due(28, "node " + n + " as " + k, x.as(n, k), taken[n][k] == 1 ? n : KIND);
        }
        x.fall(0, 1);
        x.fall(1, 1);
        int[] lost = {1, 1, 0, 0, 0, 1};
        for (int n = 0; n < 2; n++) {
            due(27, "lost " + n, x.kind(n), 5);
            for (int k = 0; k < 6; k++) due(28, "lost " + n + " as " + k, x.as(n, k), lost[k] == 1 ? n : KIND);
        }
        due(27, "node 5", x.kind(5), BAD);
        due(27, "node -1", x.kind(-1), BAD);
        due(28, "kind 6", x.as(0, 6), BAD);
        due(28, "kind -1", x.as(0, -1), BAD);
        due(28, "node 5", x.as(5, 0), BAD);
        due(28, "node -1", x.as(-1, 0), BAD);
    }

    private static void dueAsk(SafeNet x, int node, int what, int answer, int... trace) {
        String ask = "ask(" + node + ", " + what + ")";
        due(29, ask, x.ask(node, what), answer);
        for (int i = 0; i < trace.length; i++) due(30, "trace(" + i + ") behind " + ask, x.trace(i), trace[i]);
        due(30, "the end of the trace behind " + ask, x.trace(trace.length), NONE);
    }

    private static void asks() {
        SafeNet top = of("claim;claim;step any 1 0;step all 1 0;");
        dueAsk(top, 1, 0, 3, 14, 13, 10, 21, 20);
        dueAsk(top, 0, 0, 2, 13, 10, 21, 20);
        SafeNet x = of("leaf 4;given 5;claim;claim;step any 2 0 1;step all 3 2 0;step like 3 0;");
        dueAsk(x, 0, 0, 7, 11, 10);
        dueAsk(x, 0, 1, 0, 20);
        dueAsk(x, 1, 0, 12, 12, 11, 10);
        dueAsk(x, 1, 1, 1, 20);
        dueAsk(x, 2, 0, 3, 13, 10, 21, 20);
        dueAsk(x, 2, 1, 2, 21, 20);
        dueAsk(x, 3, 0, 5, 14, 13, 10, 21, 20);
        dueAsk(x, 3, 1, 3, 21, 20);
        answerAll(x);
        dueAsk(x, 2, 0, 103, 13, 10, 21, 20);
        dueAsk(x, 3, 0, 105, 14, 13, 10, 21, 20);
        dueAsk(x, 3, 1, 103, 21, 20);
        x.fall(0, 1);
        x.fall(1, 1);
        x.day(30);
        dueAsk(x, 0, 0, -7, 15, 11, 10);
        dueAsk(x, 0, 1, 30, 22, 20);
        dueAsk(x, 1, 0, -6, 15, 11, 10);
        dueAsk(x, 1, 1, 31, 22, 20);
        due(29, "what 2", x.ask(0, 2), BAD);
        due(29, "what -1", x.ask(0, -1), BAD);
        due(29, "node 4", x.ask(4, 0), BAD);
        due(29, "node -1", x.ask(-1, 0), BAD);
        due(30, "a refused ask changes nothing", x.trace(0), 22);
        due(30, "trace(-1)", x.trace(-1), NONE);
        due(30, "trace(16)", x.trace(16), NONE);
        due(30, "trace(2^31 - 1)", x.trace(Integer.MAX_VALUE), NONE);
    }

    private static void counts() {
        SafeNet x = of("leaf 4;given 5;claim;claim;leaf 1;step any 2 0 1;step all 3 2 0;step like 3 0;");
        x.sheet(5, 0, 0);
        x.doubt(2, 1, 5);
        x.fall(4, 1);
        x.weigh(4, 1, 2);
        x.feed(32L, 1);
        int[] want = {1, 5, 2, 3, 5, 1, 1, 1};
        for (int what = 0; what < 8; what++) due(31, "count(" + what + ")", x.count(what), want[what]);
        due(31, "count(8)", x.count(8), BAD);
        due(31, "count(-1)", x.count(-1), BAD);
    }

    private static void statuses() {
        SafeNet x = of("leaf 4;");
        x.drop(0);
        due(32, "missing", x.status(), 1);
        x.sheet(0, 0, 1);
        due(32, "none", x.status(), 0);
        x.set(0, 1, 0);
        due(32, "place", x.status(), 2);
        x.set(8, 0, 0);
        x.feed(0L, 9);
        x.weigh(0, 0, 1);
        x.weigh(0, 0, 1);
        x.kind(0);
        x.count(0);
        due(32, "as it was", x.status(), 2);
        x.as(0, 3);
        due(32, "kind", x.status(), 3);
        x.as(0, 6);
        due(32, "as it was", x.status(), 3);
        x.sheet(0, 0, -1);
        due(32, "size", x.status(), 4);
        x.sheet(1, 1, 3);
        x.copy(0, 0, 1, 0, 1);
        due(32, "store", x.status(), 5);
        x.set(1, 0, 1);
        x.looked(1, 1, 1);
        due(32, "place", x.status(), 2);
        x.looked(1, 0, 1);
        due(32, "a wrong item", x.status(), 2);
        x.as(0, 0);
        due(32, "none", x.status(), 0);
        x.looked(2, 0, 1);
        due(32, "missing", x.status(), 1);
        x.set(1, 0, 0);
        x.drop(2);
        x.looked(1, 0, 1);
        due(32, "none", x.status(), 0);
    }
}
