import java.nio.charset.StandardCharsets;
import java.util.ArrayList;
import java.util.Arrays;
import java.util.List;
import java.util.function.Supplier;
import java.util.function.ToIntFunction;

/**
 * Each sentence of the document that names an edge (too small, too large, empty, full, a wrap-around, a
 * refused call) has a test of its own here, in the document's order; says(..) tells the sentence. No
 * object is used for more than 512 calls, as what it answers then is free.
 */
public final class BoundaryTest {
    private static final int NONE = -1000000, BAD = -1000001, STATE = -1000002, FULL = -1000003;
    private static final int NULL = -1000011, PLACE = -1000012, KIND = -1000013, SIZE = -1000014, STORE = -1000015;
    private static final int FAULT_AT = -1000100;
    private static final int MIN = Integer.MIN_VALUE, MAX = Integer.MAX_VALUE;

    private static int wrong = 0;
    private static String sentence = "";

    public static void main(String[] args) {
        terms();
        sheetCalls();
        netCalls();
        standingCalls();
        oddsCalls();
        askedCalls();
        refusedCalls();
        anyArguments();
        lastCall();
        System.out.println(wrong == 0 ? "all answers are as due" : wrong + " answers are not as due");
        if (wrong != 0) System.exit(1);
    }

    // ---- what the tests are told with

    private static void says(String where, String words) {
        sentence = where + " '" + words + "'";
    }

    private static void due(String call, long got, long want) {
        if (got == want) return;
        wrong++;
        System.out.println(sentence + ": " + call + " answered " + got + ", due is " + want);
    }

    private static void feedAll(SafeNet x, byte[] bytes) {
        for (int i = 0; i < bytes.length; i += 8) {
            int n = Math.min(8, bytes.length - i);
            long w = 0;
            for (int k = 0; k < n; k++) w = w << 8 | bytes[i + k] & 255;
            x.feed(w, n);
        }
    }

    private static void feedAll(SafeNet x, String text) {
        feedAll(x, text.getBytes(StandardCharsets.ISO_8859_1));
    }

    private static int read(SafeNet x, String text) {
        feedAll(x, text);
        return x.net();
    }

    private static SafeNet of(String text) {
        SafeNet x = new SafeNet();
        read(x, text);
        return x;
    }

    private static SafeNet sure(String text) {
        SafeNet x = of(text);
        answerAll(x);
        return x;
    }

    private static void answerAll(SafeNet x) {
        int steps = x.count(3);
        for (int s = 0; s < steps; s++) {
            int doubts = x.step(s, 3);
            for (int k = 0; k < doubts; k++) x.doubt(s, k, 1);
        }
    }

    private static void dueText(String text, int nodes) {
        SafeNet x = new SafeNet();
        due("net() of '" + text + "'", read(x, text), nodes);
        due("fault() of '" + text + "'", x.fault(), 0);
        due("count(1) of '" + text + "'", x.count(1), nodes);
    }

    private static void dueFault(String text, int place, int fault) {
        dueFaultBehind("", text, place, fault);
    }

    /** A text with a FAULT on an object that was told another text ahead. */
    private static void dueFaultBehind(String ahead, String text, int place, int fault) {
        SafeNet x = of(ahead);
        int nodes = x.count(1), steps = x.count(3);
        due("net() of '" + text + "'", read(x, text), FAULT_AT - place);
        due("fault() of '" + text + "'", x.fault(), fault);
        due("count(1) behind '" + text + "'", x.count(1), nodes);
        due("count(3) behind '" + text + "'", x.count(3), steps);
        due("count(7) behind '" + text + "'", x.count(7), 0);
    }

    /** Numbers just outside and far outside; and, as bits wrap around behind 31, 32 and 64 more. */
    private static int[] outside(int low, int high) {
        int[] all = {low - 1, high + 1, MIN, MAX, low + 32, high + 32, low + 64, low - 32, low + 256, MIN + low, MAX - 1};
        return Arrays.stream(all).filter(v -> v < low || v > high).toArray();
    }

    /** Tells a leaf's or given's DAY and for how many DAYS that is good, by SHEET 7. */
    private static int look(SafeNet x, int node, int day, int good) {
        x.sheet(7, 2, 3);
        x.set(7, 0, node);
        x.set(7, 1, day);
        x.set(7, 2, good);
        return x.looked(7, 0, 1);
    }

    /** An ITEM from 0 to 9999, which no call tells, is seen as the DAY of NODE 0, by SHEET 6. */
    private static int item(SafeNet x, int sheet, int lane, int i) {
        x.sheet(6, lane, 3);
        int copied = x.copy(sheet, i, 6, 1, 1);
        if (copied != 1) return copied;
        int told = x.looked(6, 0, 1);
        return told == 1 ? x.node(0, 2) : told;
    }

    private static void dueOdds(SafeNet x, int claim, int leastAbove, int leastBelow, int mostAbove, int mostBelow) {
        due("odds(" + claim + ", 0)", x.odds(claim, 0), leastAbove);
        due("odds(" + claim + ", 1)", x.odds(claim, 1), leastBelow);
        due("odds(" + claim + ", 2)", x.odds(claim, 2), mostAbove);
        due("odds(" + claim + ", 3)", x.odds(claim, 3), mostBelow);
    }

    /** Odds told in hundredths. */
    private static void dueHundredths(SafeNet x, int claim, int least, int most) {
        int a = commonDivisor(least, 100), b = commonDivisor(most, 100);
        dueOdds(x, claim, least / a, 100 / a, most / b, 100 / b);
    }

    private static int commonDivisor(int a, int b) {
        return b == 0 ? a : commonDivisor(b, a % b);
    }

    // ---- Terms

    private static void terms() {
        numbersFromZero();
        refusalsInTheirOrder();
        sheetsAndLanes();
        signsOfTexts();
        roomOfTexts();
        tellingTexts();
        faultsOfTexts();
        borneUp();
        doubtsAndDays();
        rounds();
        circles();
        leaningAndFelling();
        agreeing();
        leastAndMost();
        raising();
        oneHand();
        kinds();
    }

    /** The lowest NODE, STEP, PART, DOUBT, HAND and WEIGHED one has no meaning of its own. */
    private static void numbersFromZero() {
        says("Terms", "Numbers go from 0 on.");
        SafeNet x = sure("claim;claim;leaf 0;step any 0 2;step any 1 0;");
        due("shown(0)", x.shown(0), 3);
        due("shown(1)", x.shown(1), 2);
        due("node(0, 5)", x.node(0, 5), 1);
        due("leaning(0)", x.leaning(0), 2);
        due("leaning(2)", x.leaning(2), 3);
        due("felling(0, -1)", x.felling(0, -1), 1);
        due("felling(0, 0)", x.felling(0, 0), 4);
        due("hand()", x.hand(), 0);
        due("kind(0)", x.kind(0), 3);
        due("as(0, 0)", x.as(0, 0), 0);
        due("ask(0, 0)", x.ask(0, 0), 101);
        dueOdds(x, 0, 1, 1, 1, 1);
        x.weigh(2, 10, 30);
        dueHundredths(x, 0, 10, 30);
        due("raise(0)", x.raise(0), 2);
        x.doubt(0, 0, 2);
        due("borne(0)", x.borne(0), 1);
        due("part(0, 0)", x.part(0, 0), 2);
        due("hand(), two claims fall by HAND 4, one by HAND 0", sure("claim;claim;claim;leaf 4;leaf 0;step any 0 3;step any 1 3;step any 2 4;").hand(), 4);
        due("hand(), no claim falls", sure("claim;leaf 1;leaf 2;step any 0 1 2;").hand(), NONE);
        SafeNet beside = sure("claim;claim;leaf 0;leaf 0;step any 0 2;step any 1 0;");
        due("felling(0, -1)", beside.felling(0, -1), 1);
        due("felling(1, -1)", beside.felling(1, -1), 1);
        due("felling(1, 0)", beside.felling(1, 0), 4);
        SafeNet y = sure("leaf 0;leaf 0;claim;step any 2 1 0;");
        y.weigh(0, 10, 20);
        y.weigh(1, 0, 0);
        due("raise(2), NODE 0", y.raise(2), 0);
    }

    private static void refusalsInTheirOrder() {
        says("Terms", "Refusals are answers, the first of these that fits: BAD");
        SafeNet x = new SafeNet();
        due("sheet(0, 3, -1): BAD ahead of SIZE", x.sheet(0, 3, -1), BAD);
        due("sheet(8, 0, -1): BAD ahead of SIZE", x.sheet(8, 0, -1), BAD);
        due("set(8, -1, 0): BAD ahead of PLACE", x.set(8, -1, 0), BAD);
        due("copy(0, -1, 8, 0, 0): BAD ahead of NULL", x.copy(0, -1, 8, 0, 0), BAD);
        due("copy(-1, 0, 0, 0, 0): BAD ahead of NULL", x.copy(-1, 0, 0, 0, 0), BAD);
        due("looked(0, -1, 9): BAD ahead of NULL", x.looked(0, -1, 9), BAD);
        due("looked(0, -1, 0): BAD ahead of NULL", x.looked(0, -1, 0), BAD);
        due("status(): BAD finds nothing", x.status(), 0);
        SafeNet y = of("leaf 1;claim;leaf 2;leaf 3;leaf 4;");
        due("as(1, 6): BAD ahead of KIND", y.as(1, 6), BAD);
        due("felling(1, -2): BAD ahead of STATE", y.felling(1, -2), BAD);
        due("felling(1, -1): STATE", y.felling(1, -1), STATE);
        for (int k = 0; k < 50; k++) y.feed(0L, 8);
        due("feed(0, 9): BAD ahead of FULL", y.feed(0L, 9), BAD);
        due("feed(0, 0): BAD ahead of FULL", y.feed(0L, 0), BAD);
        y.weigh(0, 10, 10);
        y.weigh(2, 10, 10);
        due("weigh(0, 5, 4): BAD ahead of STATE", y.weigh(0, 5, 4), BAD);
        y.weigh(3, 10, 10);
        due("weigh(4, 5, 4): BAD ahead of FULL", y.weigh(4, 5, 4), BAD);
        due("weigh(1, 5, 5): BAD ahead of FULL", y.weigh(1, 5, 5), BAD);
        due("weigh(3, 5, 5): STATE ahead of FULL", y.weigh(3, 5, 5), STATE);
        due("weigh(4, 5, 5): FULL", y.weigh(4, 5, 5), FULL);
        y.pair(0, 1, 50, 50);
        due("odds(1, 4): BAD ahead of STATE", y.odds(1, 4), BAD);
        due("odds(0, 0): BAD ahead of STATE", y.odds(0, 0), BAD);
        due("raise(0): BAD ahead of STATE", y.raise(0), BAD);
        due("odds(1, 3): STATE", y.odds(1, 3), STATE);
        due("raise(1): STATE", y.raise(1), STATE);

        says("Terms", "then FINDINGS, of several the first in time");
        SafeNet z = new SafeNet();
        due("set(0, -1, 0): NULL ahead of PLACE", z.set(0, -1, 0), NULL);
        due("looked(0, -1, 1): NULL ahead of PLACE", z.looked(0, -1, 1), NULL);
        z.sheet(0, 0, 2);
        due("copy(0, -1, 1, 0, 0): NULL of b ahead of PLACE", z.copy(0, -1, 1, 0, 0), NULL);
        due("copy(1, 0, 0, -1, 0): NULL of a ahead of PLACE", z.copy(1, 0, 0, -1, 0), NULL);
        z.sheet(1, 1, 2);
        due("copy(0, -1, 1, 0, 0): STORE ahead of PLACE", z.copy(0, -1, 1, 0, 0), STORE);
        due("copy(0, 0, 1, 0, 3): STORE ahead of PLACE", z.copy(0, 0, 1, 0, 3), STORE);
        z.drop(1);
        due("copy(0, 0, 1, 0, 0): NULL ahead of STORE", z.copy(0, 0, 1, 0, 0), NULL);
    }

    private static void sheetsAndLanes() {
        says("Terms 1", "SHEETS 0 .. 7 are missing (at first)");
        SafeNet x = new SafeNet();
        for (int s = 0; s < 8; s++) due("drop(" + s + ")", x.drop(s), NULL);
        for (int s = 0; s < 8; s++) due("set(" + s + ", 0, 0)", x.set(s, 0, 0), NULL);
        due("count(0)", x.count(0), 0);

        says("Terms 1", "or have a LANE (0 bytes, 1 shorts, 2 ints) and 0 to 40 ITEMS");
        for (int s = 0; s < 8; s++) {
            due("sheet(" + s + ", " + s % 3 + ", 40)", x.sheet(s, s % 3, 40), 40);
            due("set(" + s + ", 39, 1)", x.set(s, 39, 1), 1);
            due("set(" + s + ", 40, 1)", x.set(s, 40, 1), PLACE);
        }
        due("count(0): all are there", x.count(0), 8);
        for (int s = 0; s < 8; s++) {
            due("sheet(" + s + ", " + s % 3 + ", 0)", x.sheet(s, s % 3, 0), 0);
            due("set(" + s + ", 0, 1)", x.set(s, 0, 1), PLACE);
        }
        due("count(0): empty ones are there too", x.count(0), 8);

        says("Terms 1", "0 to 40 ITEMS, 0 at first");
        SafeNet y = of("leaf 1;");
        for (int lane = 0; lane < 3; lane++) {
            y.sheet(0, lane, 40);
            for (int i = 0; i < 40; i += 13) y.set(0, i, 5);
            y.sheet(0, lane, 40);
            for (int i = 0; i < 40; i += 13) due("item " + i + " of a SHEET laid anew", item(y, 0, lane, i), 0);
            y.set(0, 39, 5);
            y.drop(0);
            y.sheet(0, lane, 40);
            due("item 39 of a SHEET that was dropped", item(y, 0, lane, 39), 0);
            y.set(0, 39, 5);
            y.sheet(0, lane, 1);
            y.sheet(0, lane, 40);
            due("item 39 of a SHEET that was short between", item(y, 0, lane, 39), 0);
        }
    }

    // ---- Terms: TEXTS

    private static void signsOfTexts() {
        says("TEXTS", "NAMES (letters a to z), NUMBERS (figures, 4 at most), SIGNS ; bytes 32 and 10 between");
        for (int b = 0; b < 256; b++) dueByteAtTheEnd(b);
        for (int b = 0; b < 256; b++) dueByteBetween(b);
        for (int b = 0; b < 256; b++) dueByteAsSign(b);

        says("TEXTS", "NUMBERS (figures, 4 at most)");
        dueText("leaf 9;", 1);
        dueText("leaf 0009;", 1);
        dueFault("leaf 00009;", 5, 1);
        dueFault("leaf 0000000009;", 5, 1);
        dueFault("leaf 99999;", 5, 1);
        dueFault("leaf 4294967296;", 5, 1);
        dueText("claim;step any 0000 0000;", 1);
        dueFault("claim;step any 00000 0;", 15, 1);
        dueFault("claim;step any 0 00000;", 17, 1);

        says("TEXTS", "bytes 32 and 10 between");
        dueText("leaf0;given9;claim;step any2 0 1;", 3);
        dueText("\n\n leaf \n 0 \n ; \n claim \n ; \n step \n any \n 1 \n 0 \n ; \n", 2);
        dueFault("le af 0;", 0, 1);
        dueFault("leaf 0 0;", 7, 1);
        dueFault("claim;stepany 0 0;", 6, 1);
        dueText("claim;step any0 0;", 1);
    }

    private static boolean isBlank(int b) {
        return b == 32 || b == 10;
    }

    private static void dueByteAtTheEnd(int b) {
        SafeNet x = new SafeNet();
        feedAll(x, "claim;");
        x.feed(b, 1);
        due("net() of 'claim;' and byte " + b, x.net(), isBlank(b) ? 1 : FAULT_AT - 6);
        due("fault() of 'claim;' and byte " + b, x.fault(), isBlank(b) ? 0 : 1);
    }

    /** Between 'leaf' and '1;' a letter makes another name, a figure a number of two figures. */
    private static void dueByteBetween(int b) {
        SafeNet x = new SafeNet();
        feedAll(x, "leaf");
        x.feed(b, 1);
        feedAll(x, "1;");
        boolean letter = b >= 'a' && b <= 'z', figure = b >= '1' && b <= '9';
        int fault = isBlank(b) || b == '0' ? 0 : figure ? 2 : 1;
        due("net() of 'leaf', byte " + b + ", '1;'", x.net(), fault == 0 ? 1 : FAULT_AT - (letter ? 0 : 4));
        due("fault() of 'leaf', byte " + b + ", '1;'", x.fault(), fault);
    }

    /** Behind 'claim' just a ; may stand; blanks leave the end, which cannot stand there. */
    private static void dueByteAsSign(int b) {
        SafeNet x = new SafeNet();
        feedAll(x, "claim");
        x.feed(b, 1);
        boolean letter = b >= 'a' && b <= 'z';
        int place = letter ? 0 : isBlank(b) ? 6 : 5;
        due("net() of 'claim' and byte " + b, x.net(), b == ';' ? 1 : FAULT_AT - place);
        due("fault() of 'claim' and byte " + b, x.fault(), b == ';' ? 0 : 1);
    }

    private static void roomOfTexts() {
        says("TEXTS", "THE TAPE has at most 400 bytes");
        String steps = "step any 0 0;".repeat(15);
        String padded = "claim;".repeat(20) + steps + " ".repeat(400 - 120 - 195 - 13) + "step any 1 1;";
        SafeNet x = new SafeNet();
        feedAll(x, padded);
        due("count(7)", x.count(7), 400);
        due("net() of 400 bytes, the last a ;", x.net(), 20);
        due("step(15, 1), told by the last bytes", x.step(15, 1), 1);
        SafeNet cut = new SafeNet();
        feedAll(cut, " " + padded.substring(0, 399));
        due("net() of 400 bytes, a ; missing", cut.net(), FAULT_AT - 400);
        due("fault()", cut.fault(), 1);
        SafeNet last = new SafeNet();
        feedAll(last, " ".repeat(399) + "x");
        due("net(), byte 399 wrong", last.net(), FAULT_AT - 399);

        says("TEXTS", "NODES 0 .. 19 (20 at most)");
        dueText("leaf 1;".repeat(20), 20);
        dueText("given 1;".repeat(20), 20);
        dueText("claim;".repeat(20), 20);
        dueFault("leaf 1;".repeat(21), 140, 3);
        dueFault("given 1;".repeat(21), 160, 3);
        dueFault("claim;".repeat(21), 120, 3);
        dueFaultBehind("claim;".repeat(20), "leaf 1;", 0, 3);
        dueFaultBehind("claim;".repeat(19), " leaf 1; given 1;", 9, 3);

        says("TEXTS", "A STEP (0 .. 15; 16 at most)");
        SafeNet y = of("claim;");
        due("net() of 16 STEPS", read(y, "step any 0 0;".repeat(16)), 1);
        due("count(3)", y.count(3), 16);
        due("step(15, 0)", y.step(15, 0), 1);
        due("step(16, 0)", y.step(16, 0), BAD);
        dueFault("claim;" + "step any 0 0;".repeat(17), 214, 3);
        dueFaultBehind("claim;" + "step any 0 0;".repeat(16), "\nstep any 0 0;", 1, 3);

        says("TEXTS", "a leaf, a given has a HAND 0 to 9");
        SafeNet z = of("leaf 0;leaf 9;given 0;given 9;");
        int[] hands = {0, 9, 0, 9};
        for (int n = 0; n < 4; n++) due("node(" + n + ", 1)", z.node(n, 1), hands[n]);
        dueFault("leaf 10;", 5, 2);
        dueFault("given 10;", 6, 2);
        dueFault("leaf 9999;", 5, 2);

        says("TEXTS", "1 to 6 NODES, unlike, its PARTS (that claim may be among them)");
        dueFault("claim;step any 0;", 16, 1);
        String six = "claim;" + "leaf 0;".repeat(6);
        SafeNet parts = of(six + "step any 0 0;step any 0 6 5 4 3 2 0;");
        due("step(0, 2)", parts.step(0, 2), 1);
        due("part(0, 0), the claim itself", parts.part(0, 0), 0);
        due("step(1, 2)", parts.step(1, 2), 6);
        due("part(1, 5), the claim itself", parts.part(1, 5), 0);
        dueFault(six + "step any 0 0 1 2 3 4 5 6;", 71, 3);
        dueFault("claim;step any 0 0 0;", 19, 2);
        dueFault("claim;step any 0 0 00;", 19, 2);
        dueFault(six + "step any 0 1 2 3 4 5 1;", 69, 2);
    }

    private static void tellingTexts() {
        says("TEXTS", "They come behind those there are, when all is read");
        SafeNet x = of("leaf 1;claim;step any 1 0;");
        due("net() of an empty tape", x.net(), 2);
        due("net() of blanks", read(x, " \n"), 2);
        due("net()", read(x, "leaf 2;claim;step all 3 2;"), 4);
        due("node(2, 1)", x.node(2, 1), 2);
        due("step(1, 1)", x.step(1, 1), 3);
        due("step(1, 0)", x.step(1, 0), 0);
        due("net() with a FAULT at its end", read(x, "leaf 3;claim;step any 5 4;given 7"), FAULT_AT - 33);
        due("count(1)", x.count(1), 4);
        due("count(2)", x.count(2), 2);
        due("count(3)", x.count(3), 2);
        due("count(4)", x.count(4), 3);
        due("node(4, 0)", x.node(4, 0), BAD);
        due("step(2, 0)", x.step(2, 0), BAD);
        due("net() in their place", read(x, "given 8;step like 1 4;"), 5);
        due("node(4, 1)", x.node(4, 1), 8);
        due("node(4, 0)", x.node(4, 0), 1);
        due("step(2, 3)", x.step(2, 3), 3);
        due("step(2, 2)", x.step(2, 2), 1);
        due("part(2, 0)", x.part(2, 0), 4);
        due("count(3)", x.count(3), 3);

        says("TEXTS", "what a text tells ahead counts");
        dueText("leaf 1;claim;step any 1 0;", 2);
        dueFault("claim;step any 0 1;leaf 1;", 17, 2);
        dueFault("step any 0 0;claim;", 9, 2);
        dueFaultBehind("leaf 1;", "claim;step any 1 2;leaf 1;", 17, 2);
        SafeNet y = of("leaf 1;");
        due("a text that leans on an earlier one", read(y, "claim;step any 1 0;"), 2);
    }

    private static void faultsOfTexts() {
        says("FAULTS", "the first TOKEN that has one (its first byte)");
        dueFault("  leaf  10 ; xx", 8, 2);
        dueFault("xx leaf 10;", 0, 1);
        dueFault("leaf 1;claim;step any 1 2;leaf 99;", 24, 2);
        dueFault("leaf 1;\n\nleafs 1;", 9, 1);

        says("FAULTS", "of one TOKEN the least");
        String seven = "claim;" + "leaf 0;".repeat(7) + "step any 0 1 2 3 4 5 6 ";
        dueFault(seven + "7;", 78, 3);
        dueFault(seven + "6;", 78, 2);
        dueFault(seven + "8;", 78, 2);
        dueFault(seven + "9999;", 78, 2);
        dueFault(seven + "00007;", 78, 1);
        dueFault(seven + "any;", 78, 1);
        dueFault(seven + "?", 78, 1);
        dueFaultBehind("claim;".repeat(20), "leafs 1;", 0, 1);
        dueFaultBehind("claim;".repeat(19), "claim claim;", 6, 1);

        says("FAULTS", "1 it cannot stand there, or is none (the end: how many bytes there are)");
        String[] cut = {"leaf", "leaf ", "leaf 1", "leaf 1 ", "given", "given 1\n", "claim", "claim  ", "claim;step", "claim;step any",
            "claim;step any 0", "claim;step any 0 0", "claim;step any 0 0 "};
        for (String text : cut) dueFault(text, text.length(), 1);
        dueFault(";", 0, 1);
        dueFault("claim;;", 6, 1);
        dueFault("0;", 0, 1);
        dueFault("any;", 0, 1);
        dueFault("leaf;", 4, 1);
        dueFault("leaf leaf;", 5, 1);
        dueFault("claim 1;", 6, 1);
        dueFault("leaf 1 leaf 1;", 7, 1);
        dueFault("claim;step 0 0;", 11, 1);
        dueFault("claim;step step 0 0;", 11, 1);
        dueFault("claim;step ;", 11, 1);
        dueFault("claim;step any;", 14, 1);
        dueFault("claim;step any any;", 15, 1);
        dueFault("claim;step any 0 any;", 17, 1);
        dueFault("claim;step any 0 0 any;", 19, 1);
        for (String name : new String[] {"lea", "leafs", "leag", "meaf", "aleaf", "Leaf", "LEAF", "give", "givens", "clai", "claims", "ste", "steps"}) {
            dueFault(name + " 1;", 0, 1);
        }
        for (String form : new String[] {"al", "alls", "an", "anys", "mos", "mosts", "lik", "likes", "a", "leaf"}) {
            dueFault("claim;step " + form + " 0 0;", 11, 1);
        }

        says("FAULTS", "2 a NUMBER that is not as told (a NODE that is not there, no claim where one must be, a PART told twice)");
        dueFault("claim;step any 1 0;", 15, 2);
        dueFault("claim;step any 0 1;", 17, 2);
        dueFault("claim;step any 32 0;", 15, 2);
        dueFault("claim;step any 0 32;", 17, 2);
        dueFault("claim;step any 9999 0;", 15, 2);
        dueFault("leaf 1;claim;step any 0 1;", 22, 2);
        dueFault("given 1;claim;step any 0 1;", 23, 2);
        dueFault("claim;claim;step any 0 1 0 1;", 27, 2);
        dueFaultBehind("claim;".repeat(20), "step any 20 0;", 9, 2);
        dueFaultBehind("claim;".repeat(20), "step any 19 20;", 12, 2);

        says("FAULTS", "3 a NODE, a STEP more than there is room for (its first word), the 7th PART");
        for (String word : new String[] {"leaf", "given", "claim"}) dueFaultBehind("claim;".repeat(20), " " + word, 1, 3);
        dueFaultBehind("claim;".repeat(20), "leaf 10;", 0, 3);
        dueFaultBehind("claim;" + "step any 0 0;".repeat(16), "step", 0, 3);
        dueFaultBehind("claim;" + "step any 0 0;".repeat(16), "step some 9 9;", 0, 3);
        dueFault(seven + "7 8;", 78, 3);
    }

    private static void borneUp() {
        String[] forms = {"all", "any", "most", "like"};
        String[] words = {"all: by all its PARTS", "any: by one or more", "most: by more than half of them", "like: by its first PART"};
        for (int f = 0; f < 4; f++) {
            says("TEXTS", words[f]);
            for (int parts = 1; parts <= 6; parts++) dueBearing(forms[f], f, parts);
        }
    }

    /** The PARTS are told from the last leaf down, so that the first PART is not the first leaf. */
    private static void dueBearing(String form, int f, int parts) {
        StringBuilder text = new StringBuilder("leaf 0;".repeat(parts)).append("claim;step ").append(form).append(' ').append(parts);
        for (int n = parts - 1; n >= 0; n--) text.append(' ').append(n);
        for (int fallen = 0; fallen < 1 << parts; fallen++) {
            SafeNet x = sure(text + ";");
            for (int n = 0; n < parts; n++) x.fall(n, fallen >> n & 1);
            int stand = parts - Integer.bitCount(fallen);
            boolean[] borne = {stand == parts, stand >= 1, stand * 2 > parts, (fallen >> parts - 1 & 1) == 0};
            String told = form + " of " + parts + " PARTS, fallen " + Integer.toBinaryString(fallen);
            due("step(0, 5): " + told, x.step(0, 5), borne[f] ? 1 : 0);
            due("shown(0): " + told, x.shown(0), borne[f] ? 1 << parts : 0);
        }
    }

    private static void doubtsAndDays() {
        says("Terms 2", "by its form 2 (all), 1 (any), 2 (most), 3 (like), numbered 0, 1, ..: each is open (at first)");
        SafeNet x = of("claim;step all 0 0;step any 0 0;step most 0 0;step like 0 0;");
        int[] many = {2, 1, 2, 3};
        for (int s = 0; s < 4; s++) {
            due("step(" + s + ", 3)", x.step(s, 3), many[s]);
            due("step(" + s + ", 4)", x.step(s, 4), many[s]);
            for (int k = 0; k < many[s]; k++) due("doubt(" + s + ", " + k + ", 1)", x.doubt(s, k, 1), 0);
            due("doubt(" + s + ", " + many[s] + ", 1)", x.doubt(s, many[s], 1), BAD);
            due("step(" + s + ", 4)", x.step(s, 4), 0);
        }
        SafeNet most = of("claim;" + "step like 0 0;".repeat(16));
        due("count(4) of the most DOUBTS there can be", most.count(4), 48);

        says("Terms 2", "0 to 9999 each; at first 0 and 9999");
        SafeNet y = of("leaf 1;given 1;");
        for (int n = 0; n < 2; n++) {
            due("node(" + n + ", 2)", y.node(n, 2), 0);
            due("node(" + n + ", 3)", y.node(n, 3), 9999);
        }
        due("day(9999)", y.day(9999), 0);
        due("node(0, 5): good on the last DAY", y.node(0, 5), 1);
        int[][] right = {{0, 0}, {9999, 9999}, {0, 9999}, {9999, 0}};
        for (int[] days : right) {
            due("looked", look(y, 1, days[0], days[1]), 1);
            due("node(1, 2)", y.node(1, 2), days[0]);
            due("node(1, 3)", y.node(1, 3), days[1]);
        }
        int[][] beyond = {{-1, 0}, {0, -1}, {10000, 0}, {0, 10000}, {MIN, 0}, {0, MIN}, {MAX, 0}, {0, MAX}};
        for (int[] days : beyond) due("looked, " + days[0] + " and " + days[1], look(y, 1, days[0], days[1]), BAD);
        due("node(1, 2)", y.node(1, 2), 9999);
        due("node(1, 3)", y.node(1, 3), 0);

        says("Terms 2", "it is OLD, if THE DAY (0 to 9999; 0 at first) is more than that many behind it");
        due("day(0)", new SafeNet().day(0), 0);
        int[][] looks = {{0, 0}, {0, 1}, {5, 0}, {5, 10}, {9998, 0}, {9999, 0}, {9999, 9999}, {0, 9998}, {5000, 4998}, {5000, 4999}};
        for (int[] days : looks) dueOldBehind(days[0], days[1]);

        says("Terms 2", "It STANDS, if it is neither.");
        SafeNet z = of("leaf 1;");
        look(z, 0, 10, 5);
        int[][] states = {{15, 0, 1}, {16, 0, 0}, {15, 1, 0}, {16, 1, 0}, {0, 0, 1}, {0, 1, 0}};
        for (int[] state : states) {
            z.day(state[0]);
            z.fall(0, state[1]);
            due("node(0, 5) on day " + state[0] + ", fallen " + state[1], z.node(0, 5), state[2]);
            due("count(5)", z.count(5), 1 - state[2]);
            due("kind(0)", z.kind(0), state[2] == 1 ? 1 : 5);
        }
    }

    private static void dueOldBehind(int looked, int good) {
        SafeNet x = of("leaf 1;");
        look(x, 0, looked, good);
        int last = looked + good;
        for (int day : new int[] {0, looked - 1, looked, last - 1, last, last + 1, 9999}) {
            if (x.day(day) == BAD) continue;
            due("node(0, 5) on day " + day + ", looked at " + looked + ", good for " + good, x.node(0, 5), day > last ? 0 : 1);
        }
    }

    private static void rounds() {
        says("SHOWN", "by what was SHOWN ahead of the round, till a round shows none more");
        StringBuilder up = new StringBuilder("leaf 0;" + "claim;".repeat(16)), down = new StringBuilder(up);
        for (int s = 0; s < 16; s++) up.append("step any ").append(s + 1).append(' ').append(s).append(';');
        for (int s = 15; s >= 0; s--) down.append("step any ").append(s + 1).append(' ').append(s).append(';');
        for (String chain : new String[] {up.toString(), down.toString()}) {
            SafeNet x = sure(chain);
            due("shown(0) of the longest chain", x.shown(0), (1 << 17) - 2);
            due("shown(1) of the longest chain", x.shown(1), 16);
            x.fall(0, 1);
            due("shown(0), the leaf FALLEN", x.shown(0), 0);
            due("shown(1), the leaf FALLEN", x.shown(1), 0);
        }
        SafeNet flat = sure("leaf 0;" + "claim;".repeat(3) + "step any 1 0;step any 2 0;step any 3 0;step any 3 1;");
        due("shown(1), all in one round", flat.shown(1), 1);
        due("shown(0), the highest NODE", sure("leaf 0;" + "claim;".repeat(19) + "step any 19 0;").shown(0), 1 << 19);
        due("shown(0), claims that no STEP holds up", of("claim;claim;leaf 0;").shown(0), 0);
        due("shown(1), claims that no STEP holds up", of("claim;claim;leaf 0;").shown(1), 0);

        says("SHOWN", "of which no DOUBT is open");
        for (int k = 0; k < 3; k++) {
            SafeNet x = sure("leaf 0;claim;step like 1 0;");
            x.doubt(0, k, 0);
            due("shown(0), DOUBT " + k + " open", x.shown(0), 0);
            due("step(0, 5), DOUBT " + k + " open", x.step(0, 5), 1);
            x.doubt(0, k, 2);
            due("shown(0), DOUBT " + k + " BORNE by HAND 0", x.shown(0), 2);
            x.doubt(0, k, 11);
            due("shown(0), DOUBT " + k + " BORNE by HAND 9", x.shown(0), 2);
        }
    }

    private static void circles() {
        says("SHOWN", "A claim is in a CIRCLE, if one comes from it, by STEPS from the claim held up to a PART, to itself.");
        due("of itself", of("claim;step any 0 0;").shown(2), 1);
        due("of itself as the last PART", of("leaf 0;claim;step any 1 0 1;").shown(2), 2);
        due("without STEPS", of("claim;claim;").shown(2), 0);
        due("of two, and one that leads to them, and one they lead to", of("claim;claim;claim;claim;"
            + "step any 0 1;step any 1 2;step any 2 1;step any 2 3;").shown(2), 0b0110);
        StringBuilder great = new StringBuilder("claim;".repeat(16));
        for (int s = 0; s < 16; s++) great.append("step any ").append(s).append(' ').append((s + 5) % 16).append(';');
        SafeNet x = of(great.toString());
        due("the longest one", x.shown(2), 0xFFFF);
        answerAll(x);
        due("none of it is SHOWN", x.shown(0), 0);
        StringBuilder cut = new StringBuilder("claim;".repeat(17));
        for (int s = 0; s < 16; s++) cut.append("step any ").append(s).append(' ').append(s + 1).append(';');
        due("the longest chain", of(cut.toString()).shown(2), 0);
        due("of the highest NODES", of("claim;".repeat(20) + "step all 19 18;step all 18 19;").shown(2), 3 << 18);
    }

    private static void leaningAndFelling() {
        says("LEANING", "but for itself");
        SafeNet x = sure("leaf 0;claim;claim;step any 1 0;step any 2 1;");
        due("leaning(1)", x.leaning(1), 4);
        due("leaning(2)", x.leaning(2), 0);
        due("leaning(0)", x.leaning(0), 6);

        says("LEANING", "claims that are SHOWN, and would not be");
        SafeNet y = sure("leaf 0;leaf 0;claim;claim;step any 2 0;step all 3 2 1;");
        y.fall(1, 1);
        due("leaning(0): a claim that is not SHOWN leans on none", y.leaning(0), 4);
        due("leaning(1), FALLEN", y.leaning(1), 0);
        due("leaning(3), not SHOWN", y.leaning(3), 0);
        due("leaning(2)", y.leaning(2), 0);

        says("LEANING", "(a claim: if no STEP held it up)");
        SafeNet z = sure("leaf 0;claim;claim;step any 1 0;step any 1 2;step any 2 1;");
        due("leaning(1), held up by two STEPS", z.leaning(1), 4);
        due("leaning(2)", z.leaning(2), 0);
        StringBuilder chain = new StringBuilder("leaf 0;" + "claim;".repeat(19));
        for (int s = 0; s < 16; s++) chain.append("step any ").append(s + 4).append(' ').append(s == 0 ? 0 : s + 3).append(';');
        SafeNet great = sure(chain.toString());
        due("leaning(0), up to the highest NODE", great.leaning(0), 0xFFFF << 4);
        due("leaning(4)", great.leaning(4), 0x7FFF << 5);
        due("leaning(18)", great.leaning(18), 1 << 19);
        due("leaning(19)", great.leaning(19), 0);

        says("FELLING SETS", "sets of 1 to 3 leaves and givens that STAND");
        int[] sizes = {1, 2, 3, 4, 5, 6};
        for (int parts : sizes) {
            StringBuilder text = new StringBuilder("leaf 0;".repeat(parts)).append("claim;step any ").append(parts);
            for (int n = 0; n < parts; n++) text.append(' ').append(n);
            SafeNet any = sure(text + ";");
            due("felling(c, -1), any of " + parts, any.felling(parts, -1), parts <= 3 ? 1 : 0);
            due("felling(c, 0), any of " + parts, any.felling(parts, 0), parts <= 3 ? (1 << parts) - 1 : NONE);
            if (parts < 2) continue;
            any.fall(0, 1);
            due("felling(c, 0), one FALLEN of " + parts, any.felling(parts, 0), parts <= 4 ? (1 << parts) - 2 : NONE);
            any.fall(0, 0);
            look(any, 0, 0, 0);
            any.day(1);
            due("felling(c, 0), one OLD of " + parts, any.felling(parts, 0), parts <= 4 ? (1 << parts) - 2 : NONE);
        }

        says("FELLING SETS", "and would be with any of them less");
        SafeNet less = sure("leaf 0;leaf 0;leaf 0;claim;step all 3 0 1;step all 3 0 2;");
        due("felling(3, -1)", less.felling(3, -1), 2);
        due("felling(3, 0)", less.felling(3, 0), 1);
        due("felling(3, 1)", less.felling(3, 1), 6);
        SafeNet ones = sure("leaf 0;leaf 0;leaf 0;claim;step all 3 0 1 2;");
        due("felling(3, -1), each alone", ones.felling(3, -1), 3);
        for (int i = 0; i < 3; i++) due("felling(3, " + i + ")", ones.felling(3, i), 1 << i);
        due("felling(3, 3)", ones.felling(3, 3), NONE);
        SafeNet beside = sure("leaf 0;leaf 0;leaf 0;leaf 0;claim;claim;step all 4 0 1;step any 5 4 2;");
        due("felling(5, -1), a leaf beside that does not matter", beside.felling(5, -1), 2);
        due("felling(5, 0)", beside.felling(5, 0), 5);
        due("felling(5, 1)", beside.felling(5, 1), 6);

        says("FELLING SETS", "by how many they have, then by numbers (bits)");
        SafeNet order = sure("leaf 0;leaf 0;leaf 0;leaf 0;leaf 0;leaf 0;claim;claim;claim;step any 6 0 1 2;step any 7 3 4;step all 8 5 6 7;");
        int[] sets = {32, 24, 7, NONE};
        due("felling(8, -1)", order.felling(8, -1), 3);
        for (int i = 0; i < 4; i++) due("felling(8, " + i + ")", order.felling(8, i), sets[i]);
        SafeNet most = sure("given 0;leaf 0;leaf 0;given 0;claim;step most 4 3 2 1 0;");
        int[] twos = {3, 5, 6, 9, 10, 12, NONE};
        due("felling(4, -1)", most.felling(4, -1), 6);
        for (int i = 0; i < 7; i++) due("felling(4, " + i + ")", most.felling(4, i), twos[i]);
        greatestFelling();
    }

    /** All 19 leaves hold the claim up three by three, so that there are sets of the highest NODES. */
    private static void greatestFelling() {
        SafeNet x = sure("leaf 0;".repeat(18) + "claim;leaf 0;step all 18 0 1 2 3 4 5;step all 18 6 7 8 9 10 11;step all 18 12 13 14 15 17 19;");
        due("felling(18, -1), six by six by six", x.felling(18, -1), 216);
        due("felling(18, 0)", x.felling(18, 0), 1 | 1 << 6 | 1 << 12);
        due("felling(18, 1)", x.felling(18, 1), 1 << 1 | 1 << 6 | 1 << 12);
        due("felling(18, 215)", x.felling(18, 215), 1 << 5 | 1 << 11 | 1 << 19);
        due("felling(18, 216)", x.felling(18, 216), NONE);
    }

    // ---- Terms: odds

    private static void agreeing() {
        says("Terms 3", "WEIGHED are up to 3 leaves or givens, in the order in which they were");
        SafeNet x = of("leaf 0;given 0;leaf 0;leaf 0;");
        due("weigh(3, 50, 50)", x.weigh(3, 50, 50), 1);
        due("weigh(1, 60, 60)", x.weigh(1, 60, 60), 2);
        due("weigh(0, 0, 0)", x.weigh(0, 0, 0), 3);
        due("weigh(2, 0, 0)", x.weigh(2, 0, 0), FULL);
        due("count(6)", x.count(6), 3);
        x.pair(0, 1, 10, 10);
        due("agree(): 50 and 60 share 10", x.agree(), 1);
        x.pair(0, 2, 1, 1);
        due("agree(): 50 and 0 share none", x.agree(), 0);

        says("Terms 3", "JOINT ODDS give each WORLD a share, none below 0, together one");
        due("agree(), none WEIGHED", new SafeNet().agree(), 1);
        for (int span : new int[] {0, 1, 99, 100}) {
            SafeNet one = of("leaf 0;");
            one.weigh(0, span, span);
            due("agree(), " + span, one.agree(), 1);
        }
        int[][] spans = {{0, 0}, {0, 100}, {100, 100}, {50, 50}, {49, 50}, {51, 100}, {0, 49}, {99, 99}, {1, 1}};
        for (int[] a : spans) {
            for (int[] b : spans) {
                duePairSpans(a, b);
            }
        }

        says("Terms 3", "those in which both of a PAIR STAND in theirs");
        int[][] thirds = {{50, 25, 1}, {50, 17, 1}, {50, 16, 0}, {60, 26, 0}, {60, 27, 1}, {67, 33, 0}, {67, 34, 1}, {68, 35, 0}, {68, 36, 1}, {100, 99, 0}, {0, 0, 1}};
        for (int[] row : thirds) {
            SafeNet three = of("leaf 0;leaf 0;leaf 0;");
            for (int n = 0; n < 3; n++) three.weigh(n, row[0], row[0]);
            for (int n = 0; n < 3; n++) three.pair(n, (n + 1) % 3, 0, row[1]);
            due("agree(), three of " + row[0] + ", PAIRS up to " + row[1], three.agree(), row[2]);
        }
        for (int a = 0; a < 3; a++) {
            for (int b = 0; b < 3; b++) {
                if (a != b) dueSpansOfPair(a, b);
            }
        }
    }

    /** All spans that can be told are told, and bind: this PAIR's alone says what the two share. */
    private static void dueSpansOfPair(int a, int b) {
        SafeNet x = sure("leaf 0;leaf 0;leaf 0;claim;step all 3 " + a + " " + b + ";");
        for (int n = 0; n < 3; n++) x.weigh(n, 45, 55);
        for (int n = 0; n < 3; n++) x.pair(n, (n + 1) % 3, 15, 35);
        dueHundredths(x, 3, 15, 35);
        x.pair(a, b, 21, 29);
        dueHundredths(x, 3, 21, 29);
        x.pair(b, a, 55, 55);
        dueHundredths(x, 3, 55, 55);
        x.pair(a, b, 56, 56);
        due("agree(), PAIR " + a + ", " + b + " above each", x.agree(), 0);
        x.pair(b, a, 0, 0);
        dueHundredths(x, 3, 0, 0);
    }

    /** Two share at least what is above 100 of their lows, and at most the lesser of their highs. */
    private static void duePairSpans(int[] a, int[] b) {
        SafeNet x = of("leaf 0;leaf 0;");
        x.weigh(0, a[0], a[1]);
        x.weigh(1, b[0], b[1]);
        int least = Math.max(0, a[0] + b[0] - 100), most = Math.min(a[1], b[1]);
        String told = " of " + Arrays.toString(a) + " and " + Arrays.toString(b);
        x.pair(0, 1, most, 100);
        due("agree(), the most they share" + told, x.agree(), 1);
        x.pair(1, 0, 0, least);
        due("agree(), the least they share" + told, x.agree(), 1);
        if (x.pair(0, 1, most + 1, 100) == 1) due("agree(), more" + told, x.agree(), 0);
        if (x.pair(1, 0, 0, least - 1) == 1) due("agree(), less" + told, x.agree(), 0);
    }

    private static void leastAndMost() {
        says("Terms 3", "in each some of them STAND, the others are FALLEN; all else is as it is");
        SafeNet x = sure("leaf 0;leaf 0;claim;step all 2 0 1;");
        x.fall(0, 1);
        x.weigh(0, 30, 70);
        dueHundredths(x, 2, 30, 70);
        x.fall(1, 1);
        dueHundredths(x, 2, 0, 0);
        x.fall(1, 0);
        look(x, 0, 0, 0);
        x.fall(0, 0);
        x.day(1);
        dueHundredths(x, 2, 30, 70);
        look(x, 1, 0, 0);
        dueHundredths(x, 2, 0, 0);

        says("Terms 3", "fractions in lowest terms (0 is 0 by 1)");
        SafeNet none = sure("leaf 0;claim;claim;step any 1 0;");
        dueOdds(none, 1, 1, 1, 1, 1);
        dueOdds(none, 2, 0, 1, 0, 1);
        for (int low = 0; low <= 100; low += 25) {
            for (int high : new int[] {low, 99, 100}) {
                if (high < low) continue;
                SafeNet one = sure("leaf 0;claim;step any 1 0;");
                one.weigh(0, low, high);
                dueHundredths(one, 1, low, high);
            }
        }
        SafeNet fine = sure("leaf 0;leaf 0;leaf 0;claim;step most 3 0 1 2;");
        for (int n = 0; n < 3; n++) fine.weigh(n, 33, 33);
        dueOdds(fine, 3, 0, 1, 99, 200);

        says("Terms 3", "the least and the most, over all JOINT ODDS");
        int[][] spans = {{0, 0}, {0, 100}, {100, 100}, {50, 50}, {49, 50}, {51, 51}, {1, 99}, {0, 1}, {99, 100}};
        for (int[] a : spans) {
            for (int[] b : spans) {
                SafeNet two = sure("leaf 0;leaf 0;claim;claim;step all 2 0 1;step any 3 0 1;");
                two.weigh(0, a[0], a[1]);
                two.weigh(1, b[0], b[1]);
                dueHundredths(two, 2, Math.max(0, a[0] + b[0] - 100), Math.min(a[1], b[1]));
                dueHundredths(two, 3, Math.max(a[0], b[0]), Math.min(100, a[1] + b[1]));
            }
        }
        SafeNet three = sure("leaf 0;leaf 0;leaf 0;claim;claim;step all 3 0 1 2;step any 4 0 1 2;");
        for (int n = 0; n < 3; n++) three.weigh(n, 66, 67);
        dueHundredths(three, 3, 0, 67);
        dueHundredths(three, 4, 66, 100);
        three.unweigh();
        for (int n = 0; n < 3; n++) three.weigh(n, 67, 67);
        dueHundredths(three, 3, 1, 67);
        three.unweigh();
        for (int n = 0; n < 3; n++) three.weigh(n, 33, 33);
        dueHundredths(three, 4, 33, 99);
        for (int n = 0; n < 3; n++) three.pair(n, (n + 1) % 3, 0, 0);
        dueHundredths(three, 4, 99, 99);
        dueHundredths(three, 3, 0, 0);
    }

    private static void raising() {
        says("RAISE", "of several the first");
        SafeNet x = sure("leaf 0;leaf 0;leaf 0;claim;step all 3 0 1 2;");
        x.weigh(2, 90, 95);
        x.weigh(0, 90, 95);
        x.weigh(1, 90, 95);
        due("raise(3)", x.raise(3), 2);
        dueHundredths(x, 3, 70, 95);
        x.unweigh();
        x.weigh(2, 90, 94);
        x.weigh(1, 90, 95);
        x.weigh(0, 90, 95);
        due("raise(3)", x.raise(3), 1);
        x.unweigh();
        x.weigh(2, 90, 94);
        x.weigh(1, 90, 95);
        x.weigh(0, 90, 96);
        due("raise(3)", x.raise(3), 0);

        says("RAISE", "NONE: none raises it");
        SafeNet y = sure("leaf 0;leaf 0;claim;claim;step all 2 0 1;step any 3 0;");
        due("raise(2), none WEIGHED", y.raise(2), NONE);
        y.weigh(0, 40, 40);
        y.weigh(1, 100, 100);
        due("raise(2), each low its high", y.raise(2), NONE);
        y.unweigh();
        y.weigh(0, 10, 40);
        y.weigh(1, 10, 60);
        due("raise(2), the LEAST 0 in any case", y.raise(2), NONE);
        due("raise(3)", y.raise(3), 0);
        y.unweigh();
        y.weigh(0, 10, 40);
        y.weigh(1, 60, 91);
        due("raise(2), by one hundredth", y.raise(2), 1);
        y.unweigh();
        y.weigh(1, 0, 100);
        due("raise(3), the other leaf", y.raise(3), NONE);

        says("RAISE", "(where they would not AGREE then, it does not)");
        SafeNet z = sure("leaf 0;leaf 0;claim;step any 2 0;");
        z.weigh(0, 50, 80);
        z.weigh(1, 100, 100);
        due("raise(2)", z.raise(2), 0);
        z.pair(0, 1, 0, 79);
        due("raise(2), one hundredth too many", z.raise(2), NONE);
        due("agree()", z.agree(), 1);
        z.pair(0, 1, 0, 80);
        due("raise(2)", z.raise(2), 0);
        dueHundredths(z, 2, 50, 80);
    }

    private static void oneHand() {
        says("ONE HAND", "of several the least HAND");
        due("hand()", sure("leaf 9;leaf 3;leaf 5;claim;claim;claim;step any 3 0;step any 4 1;step any 5 2;").hand(), 3);
        due("hand()", sure("leaf 9;leaf 3;leaf 9;claim;claim;claim;step any 3 0;step any 4 1;step any 5 2;").hand(), 9);
        due("hand()", sure("leaf 9;leaf 0;claim;step all 2 0 1;").hand(), 0);

        says("ONE HAND", "all leaves and givens that STAND, if they were FALLEN together");
        SafeNet x = sure("leaf 4;given 4;leaf 6;claim;claim;step any 3 0 1;step any 4 3 2;");
        due("hand()", x.hand(), 4);
        x.fall(2, 1);
        due("hand(): two claims now", x.hand(), 4);
        x.fall(0, 1);
        x.fall(1, 1);
        due("hand(), none of them STANDS", x.hand(), NONE);

        says("ONE HAND", "NONE: no claim");
        due("hand(), nothing told", new SafeNet().hand(), NONE);
        due("hand(), leaves alone", of("leaf 1;leaf 1;").hand(), NONE);
        due("hand(), none SHOWN", of("leaf 1;claim;step any 1 0;").hand(), NONE);
        due("hand(), none falls by one", sure("leaf 1;leaf 2;claim;step any 2 0 1;").hand(), NONE);
    }

    private static void kinds() {
        says("KINDS", "4 TOP, a CLAIM: it is PART of no STEP");
        due("kind of a claim without STEPS", of("claim;").kind(0), 4);
        due("kind of a claim that is its own PART", of("claim;step any 0 0;").kind(0), 3);
        SafeNet x = of("claim;claim;step any 0 1;");
        due("kind of the claim held up", x.kind(0), 4);
        due("kind of its PART", x.kind(1), 3);
        read(x, "claim;step like 2 1 0;");
        due("kind of a PART told later", x.kind(0), 3);
        due("kind of a new TOP", x.kind(2), 4);

        says("KINDS", "It is told as LOST, if it is that, else as the last that fits");
        SafeNet y = of("leaf 1;given 1;");
        due("kind(0)", y.kind(0), 1);
        due("kind(1)", y.kind(1), 2);
        look(y, 1, 0, 3);
        y.day(3);
        due("kind(1), good still", y.kind(1), 2);
        y.day(4);
        due("kind(1), OLD", y.kind(1), 5);
        due("kind(0), not OLD", y.kind(0), 1);
        y.fall(0, 1);
        due("kind(0), FALLEN", y.kind(0), 5);
        due("as(1, 2): a LOST given is not taken as a given", y.as(1, 2), KIND);
        due("as(1, 5)", y.as(1, 5), 1);
        due("as(1, 1)", y.as(1, 1), 1);
        due("as(1, 0)", y.as(1, 0), 1);
    }

    // ---- Promises 1 to 5

    private static void sheetCalls() {
        newObject();
        sheet();
        set();
        copy();
        drop();
    }

    private static void newObject() {
        says("Promise 1", "Nothing is told.");
        SafeNet x = new SafeNet();
        for (int what = 0; what < 8; what++) due("count(" + what + ")", x.count(what), 0);
        due("fault()", x.fault(), 0);
        due("status()", x.status(), 0);
        due("net()", x.net(), 0);
        for (int what = 0; what < 3; what++) due("shown(" + what + ")", x.shown(what), 0);
        for (int hand = 0; hand < 10; hand++) due("borne(" + hand + ")", x.borne(hand), 0);
        for (int i = 0; i < 17; i++) due("trace(" + i + ")", x.trace(i), NONE);
        due("hand()", x.hand(), NONE);
        due("agree()", x.agree(), 1);
        due("unweigh()", x.unweigh(), 0);
        due("day(0)", x.day(0), 0);
        due("kind(0)", x.kind(0), BAD);
        due("leaning(0)", x.leaning(0), BAD);
        due("felling(0, -1)", x.felling(0, -1), BAD);
        due("odds(0, 0)", x.odds(0, 0), BAD);
        due("raise(0)", x.raise(0), BAD);
        due("pair(0, 1, 0, 0)", x.pair(0, 1, 0, 0), BAD);
        due("part(0, 0)", x.part(0, 0), BAD);
        due("doubt(0, 0, 0)", x.doubt(0, 0, 0), BAD);
        due("fall(0, 0)", x.fall(0, 0), BAD);
        SafeNet told = of("leaf 1;");
        told.sheet(0, 0, 1);
        due("count(1) of another object", new SafeNet().count(1), 0);
        due("count(0) of another object", new SafeNet().count(0), 0);
    }

    private static void sheet() {
        says("Promise 2", "A SHEET of a LANE with n ITEMS, in place of what is there: n.");
        SafeNet x = new SafeNet();
        due("sheet(0, 0, 5)", x.sheet(0, 0, 5), 5);
        due("sheet(0, 2, 3)", x.sheet(0, 2, 3), 3);
        due("set(0, 2, 70000), ints now", x.set(0, 2, 70000), 70000);
        due("set(0, 3, 0), shorter now", x.set(0, 3, 0), PLACE);
        due("count(0)", x.count(0), 1);

        says("Promise 2", "BAD: SHEET, LANE, n above 40");
        for (int s : outside(0, 7)) due("sheet(" + s + ", 0, 1)", x.sheet(s, 0, 1), BAD);
        for (int lane : outside(0, 2)) due("sheet(1, " + lane + ", 1)", x.sheet(1, lane, 1), BAD);
        for (int n : new int[] {41, 42, 64, 256, 296, 65536, MAX}) due("sheet(1, 0, " + n + ")", x.sheet(1, 0, n), BAD);
        due("count(0)", x.count(0), 1);

        says("Promise 2", "SIZE");
        for (int n : new int[] {-1, -40, -256, MIN, MIN + 1}) {
            due("sheet(0, 1, " + n + ")", x.sheet(0, 1, n), SIZE);
            due("sheet(1, 1, " + n + ")", x.sheet(1, 1, n), SIZE);
        }
        due("set(0, 2, 70000), ints still", x.set(0, 2, 70000), 70000);
        due("set(1, 0, 0), missing still", x.set(1, 0, 0), NULL);
    }

    private static void set() {
        says("Promise 3", "ITEM i becomes v, its lowest bits, as many as the LANE has: what it is then.");
        int[] values = {0, 1, -1, 127, 128, 129, 255, 256, 257, -128, -129, -256, 32767, 32768, 32769, 65535, 65536, 65537,
            -32768, -32769, -65536, 0x12345678, 0x0F0F8080, MAX, MIN, MAX - 1, MIN + 1};
        SafeNet x = new SafeNet();
        for (int lane = 0; lane < 3; lane++) x.sheet(lane, lane, 2);
        for (int v : values) {
            due("set(0, 1, " + v + "), a byte", x.set(0, 1, v), (byte) v);
            due("set(1, 1, " + v + "), a short", x.set(1, 1, v), (short) v);
            due("set(2, 1, " + v + "), an int", x.set(2, 1, v), v);
        }
        SafeNet y = of("leaf 0;");
        y.sheet(0, 0, 1);
        y.set(0, 0, 256 + 7);
        due("the byte that is kept", item(y, 0, 0, 0), 7);
        y.sheet(0, 1, 1);
        y.set(0, 0, 65536 + 9);
        due("the short that is kept", item(y, 0, 1, 0), 9);
        y.set(0, 0, 32768);
        due("a short below 0 is no DAY", item(y, 0, 1, 0), BAD);

        says("Promise 3", "BAD: SHEET; NULL; PLACE.");
        for (int s : outside(0, 7)) due("set(" + s + ", 0, 1)", x.set(s, 0, 1), BAD);
        for (int i : new int[] {MIN, -1, 0, MAX}) due("set(7, " + i + ", 1)", x.set(7, i, 1), NULL);
        for (int i : outside(0, 1)) due("set(2, " + i + ", 1)", x.set(2, i, 1), PLACE);
        x.sheet(3, 2, 0);
        for (int i : new int[] {MIN, -1, 0, 1, MAX}) due("set(3, " + i + ", 1), empty", x.set(3, i, 1), PLACE);
    }

    private static void copy() {
        says("Promise 4", "n ITEMS of a from i on come to b from j on, as they were ahead: n.");
        SafeNet x = of("leaf 0;");
        x.sheet(0, 2, 5);
        int[] up = {10, 10, 11, 12, 13}, down = {11, 12, 13, 14, 14};
        for (int i = 0; i < 5; i++) x.set(0, i, 10 + i);
        due("copy(0, 0, 0, 1, 4), up over itself", x.copy(0, 0, 0, 1, 4), 4);
        for (int i = 0; i < 5; i++) due("item " + i, item(x, 0, 2, i), up[i]);
        for (int i = 0; i < 5; i++) x.set(0, i, 10 + i);
        due("copy(0, 1, 0, 0, 4), down over itself", x.copy(0, 1, 0, 0, 4), 4);
        for (int i = 0; i < 5; i++) due("item " + i, item(x, 0, 2, i), down[i]);
        due("copy(0, 0, 0, 0, 5), onto itself", x.copy(0, 0, 0, 0, 5), 5);
        for (int i = 0; i < 5; i++) due("item " + i, item(x, 0, 2, i), down[i]);
        x.sheet(1, 2, 40);
        due("copy(0, 0, 1, 35, 5), to the end", x.copy(0, 0, 1, 35, 5), 5);
        due("item 35", item(x, 1, 2, 35), 11);
        due("item 34", item(x, 1, 2, 34), 0);
        due("item 39", item(x, 1, 2, 39), 14);
        x.sheet(2, 2, 40);
        due("copy(1, 0, 2, 0, 40), whole", x.copy(1, 0, 2, 0, 40), 40);
        due("item 39", item(x, 2, 2, 39), 14);

        says("Promise 4", "PLACE (i, j, n below 0, or beyond an end)");
        due("copy(0, 5, 1, 40, 0), none at both ends", x.copy(0, 5, 1, 40, 0), 0);
        x.sheet(3, 2, 0);
        due("copy(3, 0, 3, 0, 0), none of none", x.copy(3, 0, 3, 0, 0), 0);
        due("copy(3, 0, 3, 0, 1)", x.copy(3, 0, 3, 0, 1), PLACE);
        int[][] beyond = {{-1, 0, 1}, {0, -1, 1}, {0, 0, -1}, {6, 0, 0}, {0, 41, 0}, {5, 0, 1}, {0, 40, 1}, {0, 0, 6}, {1, 0, 5},
            {0, 36, 5}, {MIN, 0, 0}, {0, MIN, 0}, {0, 0, MIN}, {MAX, 0, 0}, {0, MAX, 0}, {0, 0, MAX}, {1, 0, MAX}, {0, 1, MAX},
            {MAX, 0, 1}, {0, MAX, 1}, {MAX, MAX, MAX}, {MIN, MIN, MIN}, {MIN, 0, MAX}, {0, MIN, MAX}, {3, 3, -2}, {MAX, 0, MIN}};
        for (int[] p : beyond) {
            due("copy(0, " + p[0] + ", 1, " + p[1] + ", " + p[2] + ")", x.copy(0, p[0], 1, p[1], p[2]), PLACE);
        }
        due("item 39: nothing came", item(x, 1, 2, 39), 14);

        says("Promise 4", "BAD: SHEETS; NULL; STORE");
        for (int s : outside(0, 7)) {
            due("copy(" + s + ", 0, 0, 0, 1)", x.copy(s, 0, 0, 0, 1), BAD);
            due("copy(0, 0, " + s + ", 0, 1)", x.copy(0, 0, s, 0, 1), BAD);
        }
        due("copy(5, 0, 5, 0, 0)", x.copy(5, 0, 5, 0, 0), NULL);
        due("copy(5, 0, 0, 0, 1)", x.copy(5, 0, 0, 0, 1), NULL);
        due("copy(0, 0, 5, 0, 1)", x.copy(0, 0, 5, 0, 1), NULL);
        for (int lane = 0; lane < 2; lane++) {
            x.sheet(4, lane, 5);
            due("copy(0, 0, 4, 0, 1), LANE " + lane, x.copy(0, 0, 4, 0, 1), STORE);
            due("copy(4, 0, 0, 0, 0), LANE " + lane, x.copy(4, 0, 0, 0, 0), STORE);
        }
        x.sheet(5, 0, 5);
        due("copy(4, 0, 5, 0, 1), shorts to bytes", x.copy(4, 0, 5, 0, 1), STORE);
    }

    private static void drop() {
        says("Promise 5", "A SHEET is missing from now on: how many ITEMS it had.");
        SafeNet x = new SafeNet();
        for (int n : new int[] {0, 1, 39, 40}) {
            x.sheet(7, 1, n);
            due("drop(7)", x.drop(7), n);
            due("drop(7) anew", x.drop(7), NULL);
            due("set(7, 0, 0)", x.set(7, 0, 0), NULL);
            due("looked(7, 0, 1)", x.looked(7, 0, 1), NULL);
            due("count(0)", x.count(0), 0);
        }

        says("Promise 5", "BAD; NULL.");
        for (int s : outside(0, 7)) due("drop(" + s + ")", x.drop(s), BAD);
        for (int s = 0; s < 8; s++) due("drop(" + s + ")", x.drop(s), NULL);
    }

    // ---- Promises 6 to 16

    private static void netCalls() {
        feed();
        net();
        fault();
        node();
        step();
        part();
        doubt();
        borne();
        looked();
        fall();
        day();
    }

    private static void feed() {
        says("Promise 6", "The lowest n bytes of w (1 to 8), the highest of them first, come behind the tape: how many it has.");
        String claims = "claim;claim;claim;claim;";
        for (int n = 1; n <= 8; n++) {
            SafeNet x = new SafeNet();
            for (int i = 0; i < 24; i += n) {
                int many = Math.min(n, 24 - i);
                long w = -1L;
                for (int k = 0; k < many; k++) w = w << 8 | claims.charAt(i + k);
                due("feed of " + many + " bytes", x.feed(w, many), i + many);
            }
            due("net() of what came by " + n, x.net(), 4);
        }
        SafeNet high = new SafeNet();
        due("feed of 8 bytes, the first above 127", high.feed(0x80636C61696D3B20L, 8), 8);
        due("net(): that byte is no TOKEN", high.net(), FAULT_AT);

        says("Promise 6", "BAD: n");
        SafeNet x = new SafeNet();
        for (int n : outside(1, 8)) due("feed(32, " + n + ")", x.feed(32L, n), BAD);
        due("feed(32, 0)", x.feed(32L, 0), BAD);
        due("count(7)", x.count(7), 0);

        says("Promise 6", "FULL: none comes.");
        for (int n = 1; n <= 8; n++) {
            for (int left = 0; left <= 8; left++) {
                SafeNet y = new SafeNet();
                for (int k = 0; k < 49; k++) y.feed(0x2020202020202020L, 8);
                if (left < 8) y.feed(0x2020202020202020L, 8 - left);
                due("feed of " + n + ", room for " + left, y.feed(0x2020202020202020L, n), n <= left ? 400 - left + n : FULL);
                due("count(7)", y.count(7), n <= left ? 400 - left + n : 400 - left);
                due("net()", y.net(), 0);
                due("feed of 8, the tape empty", y.feed(0x2020202020202020L, 8), 8);
            }
        }
    }

    private static void net() {
        says("Promise 7", "The tape, empty then, is read: how many NODES there are.");
        SafeNet x = new SafeNet();
        due("net() of an empty tape", x.net(), 0);
        due("net()", read(x, "claim;"), 1);
        due("count(7)", x.count(7), 0);
        due("net() anew: it is not read twice", x.net(), 1);
        due("net() of blanks", read(x, "\n \n"), 1);
        due("count(7)", x.count(7), 0);

        says("Promise 7", "-1000100 less the place of a FAULT: nothing comes.");
        due("net(), place 0", read(x, "?"), -1000100);
        due("count(7): the tape is empty all the same", x.count(7), 0);
        due("net(): what it had is not read again", x.net(), 1);
        due("net(), place 1", read(x, " ?"), -1000101);
        due("net(), place 8", read(x, "leaf 1; ?"), -1000108);
        due("net(), the end", read(x, "leaf 1; claim"), -1000113);
        due("count(1)", x.count(1), 1);
        due("count(2)", x.count(2), 1);
        due("count(3)", x.count(3), 0);
        due("leaf told by no text", x.fall(1, 1), BAD);
    }

    private static void fault() {
        says("Promise 8", "The number of the latest FAULT; 0 before one.");
        SafeNet x = new SafeNet();
        due("fault()", x.fault(), 0);
        read(x, "claim;");
        due("fault() behind a text without one", x.fault(), 0);
        x.sheet(9, 9, 99);
        due("fault() behind a refused call", x.fault(), 0);
        int[] numbers = {1, 2, 3, 2, 1};
        String[] texts = {"leaf", "leaf 10;", "claim;".repeat(20), "step any 7 0;", ";"};
        for (int i = 0; i < 5; i++) {
            read(x, texts[i]);
            due("fault() behind '" + texts[i] + "'", x.fault(), numbers[i]);
        }
        read(x, "claim;");
        due("fault() behind a text without one: the latest stays", x.fault(), 1);
        x.net();
        due("fault() behind an empty tape", x.fault(), 1);
    }

    private static void node() {
        says("Promise 9", "1 its HAND (of a claim NONE), 2 its DAY (NONE), 3 for how many DAYS it is good (NONE), 4 whether it is FALLEN (1, 0; of a claim 0)");
        SafeNet x = of("leaf 9;given 0;claim;");
        int[][] told = {{0, 9, 0, 9999, 0, 1}, {1, 0, 0, 9999, 0, 1}, {2, NONE, NONE, NONE, 0, 0}};
        for (int n = 0; n < 3; n++) {
            for (int what = 0; what < 6; what++) due("node(" + n + ", " + what + ")", x.node(n, what), told[n][what]);
        }
        x.fall(0, 1);
        due("node(0, 4)", x.node(0, 4), 1);
        due("node(0, 5)", x.node(0, 5), 0);

        says("Promise 9", "BAD.");
        for (int n : outside(0, 2)) due("node(" + n + ", 0)", x.node(n, 0), BAD);
        for (int what : outside(0, 5)) due("node(0, " + what + ")", x.node(0, what), BAD);
        for (int what : outside(0, 5)) due("node(2, " + what + ")", x.node(2, what), BAD);
        SafeNet full = of("leaf 1;".repeat(20));
        due("node(19, 1)", full.node(19, 1), 1);
        for (int n : outside(0, 19)) due("node(" + n + ", 1)", full.node(n, 1), BAD);
    }

    private static void step() {
        says("Promise 10", "5 whether it is BORNE UP by what is SHOWN (1, 0)");
        SafeNet x = of("leaf 1;claim;claim;step any 1 0;step any 2 1;");
        due("step(0, 5), a DOUBT open", x.step(0, 5), 1);
        due("step(1, 5), its PART not SHOWN", x.step(1, 5), 0);
        x.doubt(0, 0, 1);
        due("step(1, 5), its PART SHOWN", x.step(1, 5), 1);
        due("step(1, 4)", x.step(1, 4), 1);
        x.fall(0, 1);
        due("step(0, 5)", x.step(0, 5), 0);
        due("step(1, 5)", x.step(1, 5), 0);

        says("Promise 10", "BAD.");
        for (int s : outside(0, 1)) due("step(" + s + ", 0)", x.step(s, 0), BAD);
        for (int what : outside(0, 5)) due("step(0, " + what + ")", x.step(0, what), BAD);
        SafeNet full = of("claim;" + "step like 0 0;".repeat(16));
        due("step(15, 3)", full.step(15, 3), 3);
        for (int s : outside(0, 15)) due("step(" + s + ", 3)", full.step(s, 3), BAD);
    }

    private static void part() {
        says("Promise 11", "The i-th PART of a STEP; NONE.");
        SafeNet x = of("claim;" + "leaf 0;".repeat(6) + "step any 0 6 5 4 3 2 1;step any 0 3;");
        for (int i = 0; i < 6; i++) due("part(0, " + i + ")", x.part(0, i), 6 - i);
        for (int i : new int[] {6, 7, 32, MAX}) due("part(0, " + i + ")", x.part(0, i), NONE);
        due("part(1, 0)", x.part(1, 0), 3);
        for (int i : new int[] {1, 5, 6, MAX}) due("part(1, " + i + ")", x.part(1, i), NONE);

        says("Promise 11", "BAD: STEP, i below 0.");
        for (int s : outside(0, 1)) due("part(" + s + ", 0)", x.part(s, 0), BAD);
        for (int i : new int[] {-1, -6, MIN}) due("part(0, " + i + ")", x.part(0, i), BAD);
        due("part(1, -1): not the last of the STEP ahead", x.part(1, -1), BAD);
    }

    private static void doubt() {
        says("Promise 12", "A DOUBT of a STEP is open (how = 0), ANSWERED (1), BORNE by a HAND (2 and the HAND: 2 to 11): how it was.");
        SafeNet x = of("claim;step all 0 0;step any 0 0;step most 0 0;step like 0 0;");
        int was = 0;
        for (int how : new int[] {0, 1, 2, 11, 1, 0, 11, 11, 0, 0}) {
            due("doubt(3, 2, " + how + ")", x.doubt(3, 2, how), was);
            due("step(3, 4)", x.step(3, 4), how == 0 ? 3 : 2);
            due("count(4)", x.count(4), how == 0 ? 8 : 7);
            was = how;
        }
        due("doubt(3, 1, 0): each has its own", x.doubt(3, 1, 0), 0);

        says("Promise 12", "BAD.");
        int[] many = {2, 1, 2, 3};
        for (int s = 0; s < 4; s++) {
            for (int k : outside(0, many[s] - 1)) due("doubt(" + s + ", " + k + ", 1)", x.doubt(s, k, 1), BAD);
        }
        for (int how : outside(0, 11)) due("doubt(0, 0, " + how + ")", x.doubt(0, 0, how), BAD);
        for (int s : outside(0, 3)) due("doubt(" + s + ", 0, 1)", x.doubt(s, 0, 1), BAD);
        due("count(4)", x.count(4), 8);
    }

    private static void borne() {
        says("Promise 13", "How many DOUBTS a HAND has BORNE.");
        SafeNet x = of("claim;" + "step like 0 0;".repeat(16));
        for (int s = 0; s < 16; s++) {
            for (int k = 0; k < 3; k++) x.doubt(s, k, 11);
        }
        due("borne(9), all there are", x.borne(9), 48);
        due("borne(8)", x.borne(8), 0);
        x.doubt(15, 2, 2);
        due("borne(9)", x.borne(9), 47);
        due("borne(0)", x.borne(0), 1);
        x.doubt(15, 2, 1);
        due("borne(0), ANSWERED", x.borne(0), 0);
        x.doubt(0, 0, 0);
        due("borne(9), open", x.borne(9), 46);

        says("Promise 13", "BAD.");
        for (int hand : outside(0, 9)) due("borne(" + hand + ")", x.borne(hand), BAD);
    }

    private static void looked() {
        says("Promise 14", "DAYS of n leaves or givens (1 to 8), three ITEMS each of a SHEET from i on (NODE, DAY, for how many): n.");
        SafeNet x = of("leaf 0;".repeat(5) + "given 0;".repeat(3) + "claim;");
        x.sheet(0, 1, 25);
        for (int n = 0; n < 8; n++) {
            x.set(0, 1 + 3 * n, n);
            x.set(0, 2 + 3 * n, 100 + n);
            x.set(0, 3 + 3 * n, 200 + n);
        }
        due("looked(0, 1, 8), to the end", x.looked(0, 1, 8), 8);
        for (int n = 0; n < 8; n++) {
            due("node(" + n + ", 2)", x.node(n, 2), 100 + n);
            due("node(" + n + ", 3)", x.node(n, 3), 200 + n);
        }
        x.set(0, 23, 0);
        due("looked(0, 22, 1), the last three", x.looked(0, 22, 1), 1);
        due("node(7, 2)", x.node(7, 2), 0);
        x.set(0, 4, 0);
        due("looked(0, 1, 2), one NODE twice", x.looked(0, 1, 2), 2);
        due("node(0, 2): the later stays", x.node(0, 2), 101);
        due("node(1, 2): not told anew", x.node(1, 2), 101);
        x.set(0, 4, 99);
        due("looked(0, 1, 1), no such NODE behind it", x.looked(0, 1, 1), 1);
        due("node(0, 2)", x.node(0, 2), 100);

        says("Promise 14", "BAD: SHEET, n; NULL; PLACE");
        for (int s : outside(0, 7)) due("looked(" + s + ", 0, 1)", x.looked(s, 0, 1), BAD);
        for (int n : outside(1, 8)) due("looked(0, 0, " + n + ")", x.looked(0, 0, n), BAD);
        for (int n : outside(1, 8)) due("looked(5, -1, " + n + ")", x.looked(5, -1, n), BAD);
        for (int i : new int[] {MIN, -1, 0, MAX}) due("looked(5, " + i + ", 1)", x.looked(5, i, 1), NULL);
        int[][] beyond = {{-1, 1}, {23, 1}, {24, 1}, {25, 1}, {26, 1}, {2, 8}, {20, 2}, {MIN, 1}, {MAX, 1}, {MAX, 8}, {MAX - 2, 1}, {MIN, 8}};
        for (int[] p : beyond) due("looked(0, " + p[0] + ", " + p[1] + ")", x.looked(0, p[0], p[1]), PLACE);
        x.sheet(1, 1, 0);
        due("looked(1, 0, 1), empty", x.looked(1, 0, 1), PLACE);
        x.sheet(1, 1, 2);
        due("looked(1, 0, 1), two ITEMS", x.looked(1, 0, 1), PLACE);
        wrongItems();
    }

    private static void wrongItems() {
        says("Promise 14", "then BAD: an ITEM (a claim, too); nothing is told then.");
        int[][] wrongs = {{2, 0, 0}, {3, 0, 0}, {-1, 0, 0}, {32, 0, 0}, {MIN, 0, 0}, {MAX, 0, 0}, {0, -1, 0}, {0, 10000, 0}, {0, MIN, 0},
            {0, MAX, 0}, {0, 0, -1}, {0, 0, 10000}, {0, 0, MIN}, {0, 0, MAX}};
        for (int[] items : wrongs) {
            for (int at = 0; at < 3; at++) {
                SafeNet x = of("leaf 0;given 0;claim;");
                x.sheet(0, 2, 9);
                for (int k = 0; k < 3; k++) {
                    x.set(0, 3 * k, k % 2);
                    x.set(0, 3 * k + 1, 5);
                    x.set(0, 3 * k + 2, 6);
                }
                for (int k = 0; k < 3; k++) x.set(0, 3 * at + k, items[k]);
                String told = ", wrong " + Arrays.toString(items) + " at " + at;
                due("looked(0, 0, 3)" + told, x.looked(0, 0, 3), BAD);
                for (int n = 0; n < 2; n++) due("node(" + n + ", 2)" + told, x.node(n, 2), 0);
                for (int n = 0; n < 2; n++) due("node(" + n + ", 3)" + told, x.node(n, 3), 9999);
                due("looked(0, 0, 4): PLACE ahead of an ITEM" + told, x.looked(0, 0, 4), PLACE);
                due("status()", x.status(), 2);
                due("looked(0, 0, 3)" + told, x.looked(0, 0, 3), BAD);
                due("status(), as it was", x.status(), 2);
            }
        }
        SafeNet bytes = of("leaf 0;");
        bytes.sheet(0, 0, 3);
        bytes.set(0, 1, 200);
        due("looked(0, 0, 1), a byte that wrapped below 0", bytes.looked(0, 0, 1), BAD);
        bytes.set(0, 1, 127);
        due("looked(0, 0, 1), the highest byte", bytes.looked(0, 0, 1), 1);
        due("node(0, 2)", bytes.node(0, 2), 127);
    }

    private static void fall() {
        says("Promise 15", "A leaf or given is FALLEN (1), or not (0): what it was.");
        SafeNet x = of("leaf 0;given 0;claim;");
        int[] is = {0, 1, 1, 0, 0}, was = {0, 0, 1, 1, 0};
        for (int n = 0; n < 2; n++) {
            for (int k = 0; k < 5; k++) due("fall(" + n + ", " + is[k] + ")", x.fall(n, is[k]), was[k]);
        }
        look(x, 0, 0, 0);
        x.day(1);
        due("fall(0, 0): OLD is not FALLEN", x.fall(0, 0), 0);
        due("node(0, 4)", x.node(0, 4), 0);

        says("Promise 15", "BAD.");
        for (int n : outside(0, 2)) due("fall(" + n + ", 1)", x.fall(n, 1), BAD);
        for (int k = 0; k < 2; k++) due("fall(2, " + k + "), a claim", x.fall(2, k), BAD);
        for (int k : outside(0, 1)) due("fall(0, " + k + ")", x.fall(0, k), BAD);
        due("node(0, 4)", x.node(0, 4), 0);
    }

    private static void day() {
        says("Promise 16", "THE DAY: what it was. BAD.");
        SafeNet x = new SafeNet();
        due("day(9999)", x.day(9999), 0);
        for (int day : new int[] {-1, 10000, MIN, MAX, 65536, -9999}) due("day(" + day + ")", x.day(day), BAD);
        due("day(0)", x.day(0), 9999);
        due("day(0)", x.day(0), 0);
    }

    // ---- Promises 17 to 20

    private static void standingCalls() {
        says("Promise 17", "BAD.");
        SafeNet x = sure("leaf 0;claim;claim;step any 1 0;");
        for (int what : outside(0, 2)) due("shown(" + what + ")", x.shown(what), BAD);
        due("shown(0): claims alone, no leaves", x.shown(0), 2);

        says("Promise 18", "BAD.");
        for (int n : outside(0, 2)) due("leaning(" + n + ")", x.leaning(n), BAD);
        SafeNet full = sure("leaf 0;" + "claim;".repeat(19) + "step any 19 0;");
        due("leaning(0)", full.leaning(0), 1 << 19);
        for (int n : outside(0, 19)) due("leaning(" + n + ")", full.leaning(n), BAD);

        says("Promise 19", "how many (i = -1); the i-th; NONE: not so many.");
        due("felling(1, -1)", x.felling(1, -1), 1);
        due("felling(1, 0)", x.felling(1, 0), 1);
        for (int i : new int[] {1, 2, 32, MAX}) due("felling(1, " + i + ")", x.felling(1, i), NONE);

        says("Promise 19", "BAD: no claim, i below -1");
        for (int i : new int[] {-2, -3, MIN}) due("felling(1, " + i + ")", x.felling(1, i), BAD);
        for (int i : new int[] {-2, MIN}) due("felling(2, " + i + "), not SHOWN", x.felling(2, i), BAD);
        for (int n : outside(0, 2)) due("felling(" + n + ", -1)", x.felling(n, -1), BAD);
        due("felling(0, -1), a leaf", x.felling(0, -1), BAD);
        due("felling(0, 0), a leaf", x.felling(0, 0), BAD);

        says("Promise 19", "STATE: it is not SHOWN.");
        for (int i : new int[] {-1, 0, MAX}) due("felling(2, " + i + ")", x.felling(2, i), STATE);
        x.fall(0, 1);
        for (int i : new int[] {-1, 0, MAX}) due("felling(1, " + i + "), FALLEN", x.felling(1, i), STATE);
        x.fall(0, 0);
        x.doubt(0, 0, 0);
        due("felling(1, -1), a DOUBT open", x.felling(1, -1), STATE);

        says("Promise 20", "ONE HAND; NONE.");
        due("hand()", x.hand(), NONE);
        x.doubt(0, 0, 5);
        due("hand(): of leaves, not of who BORE the DOUBT", x.hand(), 0);
        due("hand(), the highest", sure("leaf 9;claim;step any 1 0;").hand(), 9);
        due("hand(), all NODES there can be", sure("leaf 8;".repeat(18) + "claim;leaf 9;step any 18 19;").hand(), 9);
    }

    // ---- Promises 21 to 26

    private static void oddsCalls() {
        says("Promise 21", "BAD: NODE, low, high (0 to 100, high no less)");
        SafeNet x = of("leaf 0;given 0;leaf 0;leaf 0;claim;");
        for (int n : outside(0, 4)) due("weigh(" + n + ", 0, 0)", x.weigh(n, 0, 0), BAD);
        due("weigh(4, 0, 0), a claim", x.weigh(4, 0, 0), BAD);
        int[][] wrongs = {{-1, 0}, {-1, -1}, {0, -1}, {0, 101}, {101, 101}, {100, 101}, {1, 0}, {100, 99}, {100, 0}, {MIN, 0}, {0, MAX},
            {MIN, MAX}, {MAX, MIN}, {MAX, MAX}, {MIN, MIN}};
        for (int[] s : wrongs) due("weigh(0, " + s[0] + ", " + s[1] + ")", x.weigh(0, s[0], s[1]), BAD);
        due("count(6)", x.count(6), 0);
        due("weigh(0, 0, 0)", x.weigh(0, 0, 0), 1);
        due("weigh(1, 100, 100)", x.weigh(1, 100, 100), 2);

        says("Promise 21", "STATE: it is");
        due("weigh(0, 0, 0)", x.weigh(0, 0, 0), STATE);
        due("weigh(1, 0, 100)", x.weigh(1, 0, 100), STATE);
        due("count(6)", x.count(6), 2);

        says("Promise 21", "FULL: 3.");
        due("weigh(2, 0, 100)", x.weigh(2, 0, 100), 3);
        due("weigh(3, 0, 100)", x.weigh(3, 0, 100), FULL);
        due("count(6)", x.count(6), 3);

        pairs(wrongs);
        unweigh();

        says("Promise 24", "AGREE: 1, 0.");
        SafeNet y = of("leaf 0;leaf 0;");
        due("agree()", y.agree(), 1);
        y.weigh(0, 100, 100);
        y.weigh(1, 0, 0);
        due("agree()", y.agree(), 1);
        y.pair(0, 1, 1, 100);
        due("agree()", y.agree(), 0);
        y.pair(0, 1, 0, 100);
        due("agree()", y.agree(), 1);

        says("Promise 25", "BAD; STATE: they do not AGREE.");
        SafeNet z = sure("leaf 0;leaf 0;claim;step any 2 0;");
        for (int n : outside(0, 2)) due("odds(" + n + ", 0)", z.odds(n, 0), BAD);
        due("odds(0, 0), a leaf", z.odds(0, 0), BAD);
        for (int what : outside(0, 3)) due("odds(2, " + what + ")", z.odds(2, what), BAD);
        z.weigh(0, 50, 50);
        z.weigh(1, 0, 0);
        z.pair(0, 1, 1, 1);
        for (int what = 0; what < 4; what++) due("odds(2, " + what + ")", z.odds(2, what), STATE);

        says("Promise 26", "BAD; STATE: they do not AGREE.");
        due("raise(2)", z.raise(2), STATE);
        for (int n : outside(0, 2)) due("raise(" + n + ")", z.raise(n), BAD);
        due("raise(0), a leaf", z.raise(0), BAD);
        z.pair(0, 1, 0, 0);
        due("raise(2), they AGREE", z.raise(2), NONE);
        dueOdds(z, 2, 1, 2, 1, 2);
    }

    private static void pairs(int[][] wrongSpans) {
        says("Promise 22", "A PAIR of WEIGHED ones (0 to 2, as they were weighed) has a span (told anew, too): 1.");
        SafeNet x = of("leaf 0;leaf 0;leaf 0;");
        x.weigh(2, 50, 50);
        x.weigh(1, 50, 50);
        x.weigh(0, 0, 0);
        due("pair(0, 1, 50, 50)", x.pair(0, 1, 50, 50), 1);
        due("agree(): the first two weighed", x.agree(), 1);
        due("pair(1, 2, 0, 0)", x.pair(1, 2, 0, 0), 1);
        due("agree()", x.agree(), 1);
        due("pair(2, 0, 1, 1)", x.pair(2, 0, 1, 1), 1);
        due("agree(): the first and the third", x.agree(), 0);
        due("pair(0, 2, 0, 100), told anew", x.pair(0, 2, 0, 100), 1);
        due("agree()", x.agree(), 1);

        says("Promise 22", "BAD (alike, too).");
        for (int k = 0; k < 3; k++) due("pair(" + k + ", " + k + ", 1, 1)", x.pair(k, k, 1, 1), BAD);
        for (int k : outside(0, 2)) {
            due("pair(" + k + ", 1, 1, 1)", x.pair(k, 1, 1, 1), BAD);
            due("pair(1, " + k + ", 1, 1)", x.pair(1, k, 1, 1), BAD);
        }
        for (int[] s : wrongSpans) due("pair(0, 2, " + s[0] + ", " + s[1] + ")", x.pair(0, 2, s[0], s[1]), BAD);
        due("agree()", x.agree(), 1);
        SafeNet few = of("leaf 0;leaf 0;leaf 0;");
        due("pair(0, 1, 0, 0), none WEIGHED", few.pair(0, 1, 0, 0), BAD);
        few.weigh(0, 50, 50);
        due("pair(0, 1, 0, 0), one WEIGHED", few.pair(0, 1, 0, 0), BAD);
        few.weigh(1, 60, 60);
        due("pair(0, 2, 0, 0), two WEIGHED", few.pair(0, 2, 0, 0), BAD);
        due("pair(1, 2, 0, 0), two WEIGHED", few.pair(1, 2, 0, 0), BAD);
        few.weigh(2, 100, 100);
        due("agree(): what was refused was not kept", few.agree(), 1);
    }

    private static void unweigh() {
        says("Promise 23", "None is WEIGHED, there are no PAIRS any more: how many were.");
        SafeNet x = of("leaf 0;leaf 0;leaf 0;");
        due("unweigh(), none", x.unweigh(), 0);
        for (int many = 1; many <= 3; many++) {
            for (int n = 0; n < many; n++) x.weigh(n, 100, 100);
            for (int n = 1; n < many; n++) x.pair(n - 1, n, 0, 0);
            if (many == 3) x.pair(0, 2, 0, 0);
            due("agree()", x.agree(), many == 1 ? 1 : 0);
            due("unweigh()", x.unweigh(), many);
            due("count(6)", x.count(6), 0);
            due("agree()", x.agree(), 1);
        }
        for (int n = 0; n < 3; n++) due("weigh(" + n + ", 100, 100) anew", x.weigh(n, 100, 100), n + 1);
        due("agree(): no PAIR is left", x.agree(), 1);
        due("unweigh()", x.unweigh(), 3);
        due("unweigh()", x.unweigh(), 0);
    }

    // ---- Promises 27 to 32

    private static void askedCalls() {
        says("Promise 27", "BAD.");
        SafeNet x = of("leaf 1;given 2;claim;claim;step any 3 2 0;");
        for (int n : outside(0, 3)) due("kind(" + n + ")", x.kind(n), BAD);

        says("Promise 28", "BAD; KIND: it is not taken so.");
        for (int n : outside(0, 3)) due("as(" + n + ", 0)", x.as(n, 0), BAD);
        for (int kind : outside(0, 5)) due("as(0, " + kind + ")", x.as(0, kind), BAD);
        int[] taken = {0b000011, 0b000111, 0b001001, 0b011001};
        for (int n = 0; n < 4; n++) {
            for (int kind = 0; kind < 6; kind++) {
                boolean is = (taken[n] >> kind & 1) == 1;
                due("as(" + n + ", " + kind + ")", x.as(n, kind), is ? n : KIND);
                due("status()", x.status(), is ? 0 : 3);
            }
        }

        says("Promise 29", "BAD. THE TRACE is empty ahead of it.");
        due("ask(3, 0)", x.ask(3, 0), 4);
        int[] longest = {14, 13, 10, 21, 20};
        for (int i = 0; i < 5; i++) due("trace(" + i + ")", x.trace(i), longest[i]);
        for (int n : outside(0, 3)) due("ask(" + n + ", 0)", x.ask(n, 0), BAD);
        for (int what : outside(0, 1)) due("ask(0, " + what + ")", x.ask(0, what), BAD);
        for (int i = 0; i < 5; i++) due("trace(" + i + ") behind refused ones", x.trace(i), longest[i]);
        due("ask(0, 1)", x.ask(0, 1), 0);
        due("trace(0)", x.trace(0), 20);
        for (int i = 1; i < 6; i++) due("trace(" + i + ") of a shorter ask", x.trace(i), NONE);

        says("Promise 30", "Number i of THE TRACE; NONE.");
        for (int i : new int[] {1, 15, 16, 17, 32, MAX, -1, -16, MIN}) due("trace(" + i + ")", x.trace(i), NONE);
        due("trace(0)", x.trace(0), 20);

        says("Promise 31", "BAD.");
        for (int what : outside(0, 7)) due("count(" + what + ")", x.count(what), BAD);
        askEdges();
        statuses();
    }

    private static void askEdges() {
        says("Terms 4", "12 of GIVENS: what 11 gives, twice.");
        SafeNet none = of("given 0;given 9;leaf 9;");
        due("ask(0, 0), twice none", none.ask(0, 0), 0);
        due("ask(1, 0), twice the highest HAND", none.ask(1, 0), 18);
        int[] bodies = {12, 11, 10, NONE};
        for (int i = 0; i < 4; i++) due("trace(" + i + ")", none.trace(i), bodies[i]);
        due("ask(2, 0), a leaf", none.ask(2, 0), 9);
        for (int i = 0; i < 3; i++) due("trace(" + i + ")", none.trace(i), bodies[i + 1]);

        says("Terms 4", "15 of LOST ones: 0 less what 11 gives.");
        SafeNet x = of("leaf 0;given 9;claim;step any 2 1;");
        x.fall(0, 1);
        x.fall(1, 1);
        due("ask(0, 0): 0 less none", x.ask(0, 0), 0);
        due("trace(0)", x.trace(0), 15);
        due("ask(1, 0): not twice, as a given", x.ask(1, 0), -10);
        due("trace(2)", x.trace(2), 10);
        due("trace(3)", x.trace(3), NONE);

        says("Terms 4", "22 of LOST ones: what 20 gives, and THE DAY.");
        due("ask(1, 1), on DAY 0", x.ask(1, 1), 1);
        x.day(9999);
        due("ask(1, 1), on the last DAY", x.ask(1, 1), 10000);
        due("trace(0)", x.trace(0), 22);
        due("trace(1)", x.trace(1), 20);

        says("Terms 4", "14 of TOPS: what 13 gives, and how many STEPS hold it up.");
        SafeNet top = of("leaf 0;" + "claim;".repeat(19) + "step any 19 0;".repeat(16));
        due("ask(19, 0), not SHOWN", top.ask(19, 0), 19 + 16);
        due("ask(18, 0), no STEP", top.ask(18, 0), 18);
        top.doubt(15, 0, 1);
        due("ask(19, 0), SHOWN", top.ask(19, 0), 119 + 16);
        due("ask(0, 0), PART of all STEPS", top.ask(0, 0), 16);

        says("Terms 4", "21 of CLAIMS: what 20 gives, and 100, if it is SHOWN.");
        due("ask(19, 1)", top.ask(19, 1), 119);
        due("ask(18, 1)", top.ask(18, 1), 18);
        top.fall(0, 1);
        due("ask(19, 1), FALLEN below it", top.ask(19, 1), 19);
    }

    private static void statuses() {
        says("Promise 32", "Of the latest call with a SHEET, or as(), that was not BAD, STATE, FULL: the number of its FINDING; 0: it had none, or there was none.");
        SafeNet x = of("leaf 0;claim;");
        due("status(), there was none", x.status(), 0);
        List<ToIntFunction<SafeNet>> finding = List.of(y -> y.drop(5), y -> y.set(0, 3, 0), y -> y.as(0, 3), y -> y.sheet(0, 0, -1),
            y -> y.copy(0, 0, 1, 0, 0));
        List<ToIntFunction<SafeNet>> fine = List.of(y -> y.sheet(2, 0, 0), y -> y.set(0, 0, 0), y -> y.copy(0, 0, 0, 0, 0), y -> y.drop(2),
            y -> y.as(0, 0), y -> y.looked(0, 0, 1));
        x.sheet(0, 2, 3);
        x.sheet(1, 1, 3);
        for (int f = 0; f < 5; f++) {
            for (ToIntFunction<SafeNet> call : fine) {
                due("finding " + (f + 1), finding.get(f).applyAsInt(x), -1000011 - f);
                due("status()", x.status(), f + 1);
                due("status() anew", x.status(), f + 1);
                call.applyAsInt(x);
                due("status() behind one that had none", x.status(), 0);
            }
        }
        x.as(0, 3);
        x.sheet(8, 0, 0);
        x.set(8, 0, 0);
        x.copy(8, 0, 0, 0, 0);
        x.drop(8);
        x.looked(8, 0, 1);
        x.as(0, 6);
        x.feed(0L, 9);
        x.felling(1, -1);
        due("status() behind BAD and STATE ones", x.status(), 3);
        x.fall(0, 1);
        x.weigh(0, 0, 0);
        x.net();
        x.ask(0, 0);
        x.kind(0);
        due("status() behind calls without a SHEET", x.status(), 3);
    }

    // ---- What is refused, or found, changes nothing but status()

    /** An object that has been told of everything; status() is 3. */
    private static SafeNet busy() {
        SafeNet x = of("leaf 1;leaf 2;given 3;leaf 1;claim;claim;claim;step all 4 0 1;step any 5 4 2;step most 6 5 0 3;step like 6 4 5;");
        x.doubt(0, 0, 1);
        x.doubt(0, 1, 1);
        x.doubt(1, 0, 6);
        x.doubt(2, 1, 2);
        x.day(50);
        x.sheet(0, 2, 6);
        int[] items = {1, 40, 20, 7, 8, 9};
        for (int i = 0; i < 6; i++) x.set(0, i, items[i]);
        x.looked(0, 0, 1);
        x.fall(3, 1);
        x.sheet(1, 0, 2);
        x.set(1, 1, 3);
        x.sheet(2, 1, 0);
        x.weigh(0, 60, 80);
        x.weigh(2, 50, 90);
        x.pair(0, 1, 30, 70);
        read(x, "leaf 10;");
        feedAll(x, "claim;");
        x.ask(6, 0);
        x.as(0, 3);
        return x;
    }

    private static SafeNet busyAndFull() {
        SafeNet x = busy();
        x.weigh(1, 10, 20);
        for (int k = 0; k < 49; k++) x.feed(0x2020202020202020L, 8);
        x.feed(0x2020L, 2);
        return x;
    }

    private static SafeNet busyAndDisagreed() {
        SafeNet x = busy();
        x.pair(1, 0, 90, 100);
        return x;
    }

    /** All that calls can tell of an object, but for status(); it is changed by this. */
    private static List<Integer> told(SafeNet x) {
        List<Integer> all = new ArrayList<>();
        for (int i = 0; i < 6; i++) all.add(x.trace(i));
        for (int what = 0; what < 8; what++) all.add(x.count(what));
        all.add(x.fault());
        for (int n = 0; n < 7; n++) {
            for (int what = 0; what < 6; what++) all.add(x.node(n, what));
            all.add(x.leaning(n));
            all.add(x.kind(n));
        }
        for (int s = 0; s < 4; s++) {
            for (int what = 0; what < 6; what++) all.add(x.step(s, what));
            for (int i = 0; i < 4; i++) all.add(x.part(s, i));
        }
        for (int what = 0; what < 3; what++) all.add(x.shown(what));
        for (int claim = 4; claim < 7; claim++) {
            for (int i = -1; i < 3; i++) all.add(x.felling(claim, i));
            for (int what = 0; what < 4; what++) all.add(x.odds(claim, what));
            all.add(x.raise(claim));
        }
        all.add(x.hand());
        all.add(x.agree());
        for (int s = 0; s < 4; s++) {
            for (int k = 0; k < 3; k++) all.add(x.doubt(s, k, 0));
        }
        all.add(x.day(0));
        all.add(x.unweigh());
        for (int s = 3; s < 8; s++) all.add(x.drop(s));
        for (int i = 0; i < 6; i++) all.add(item(x, 0, 2, i));
        for (int i = 0; i < 2; i++) all.add(item(x, 1, 0, i));
        for (int s = 0; s < 3; s++) all.add(x.drop(s));
        all.add(x.net());
        all.add(x.fault());
        return all;
    }

    private static void refused(Supplier<SafeNet> ahead, String name, ToIntFunction<SafeNet> call, int answer) {
        SafeNet x = ahead.get();
        due(name, call.applyAsInt(x), answer);
        boolean finding = answer <= NULL && answer >= STORE;
        due("status() behind " + name, x.status(), finding ? -1000010 - answer : 3);
        List<Integer> got = told(x), want = told(ahead.get());
        if (!got.equals(want)) due("what " + name + " changed: " + got + ", due are " + want, 1, 0);
    }

    private static void refusedCalls() {
        says("Terms", "What is refused, or found, changes nothing but status().");
        due("status() of the object", busy().status(), 3);
        refusedSheetCalls();
        refusedNetCalls();
        refusedOddsCalls();
        refusedAskedCalls();
    }

    private static void refusedSheetCalls() {
        for (int s : outside(0, 7)) {
            refused(BoundaryTest::busy, "sheet(" + s + ", 0, 1)", x -> x.sheet(s, 0, 1), BAD);
            refused(BoundaryTest::busy, "set(" + s + ", 0, 1)", x -> x.set(s, 0, 1), BAD);
            refused(BoundaryTest::busy, "copy(0, 0, " + s + ", 0, 1)", x -> x.copy(0, 0, s, 0, 1), BAD);
            refused(BoundaryTest::busy, "copy(" + s + ", 0, 0, 0, 1)", x -> x.copy(s, 0, 0, 0, 1), BAD);
            refused(BoundaryTest::busy, "drop(" + s + ")", x -> x.drop(s), BAD);
            refused(BoundaryTest::busy, "looked(" + s + ", 0, 1)", x -> x.looked(s, 0, 1), BAD);
        }
        for (int lane : outside(0, 2)) refused(BoundaryTest::busy, "sheet(0, " + lane + ", 1)", x -> x.sheet(0, lane, 1), BAD);
        refused(BoundaryTest::busy, "sheet(0, 1, 41)", x -> x.sheet(0, 1, 41), BAD);
        refused(BoundaryTest::busy, "sheet(0, 1, -1)", x -> x.sheet(0, 1, -1), SIZE);
        refused(BoundaryTest::busy, "set(3, 0, 1)", x -> x.set(3, 0, 1), NULL);
        for (int i : outside(0, 5)) refused(BoundaryTest::busy, "set(0, " + i + ", 1)", x -> x.set(0, i, 1), PLACE);
        refused(BoundaryTest::busy, "set(2, 0, 1)", x -> x.set(2, 0, 1), PLACE);
        refused(BoundaryTest::busy, "copy(0, 0, 3, 0, 1)", x -> x.copy(0, 0, 3, 0, 1), NULL);
        refused(BoundaryTest::busy, "copy(3, 0, 0, 0, 1)", x -> x.copy(3, 0, 0, 0, 1), NULL);
        refused(BoundaryTest::busy, "copy(0, 0, 1, 0, 1)", x -> x.copy(0, 0, 1, 0, 1), STORE);
        refused(BoundaryTest::busy, "copy(0, 0, 0, 3, 4)", x -> x.copy(0, 0, 0, 3, 4), PLACE);
        refused(BoundaryTest::busy, "copy(0, 3, 0, 0, 4)", x -> x.copy(0, 3, 0, 0, 4), PLACE);
        refused(BoundaryTest::busy, "drop(3)", x -> x.drop(3), NULL);
        for (int n : outside(1, 8)) refused(BoundaryTest::busy, "looked(0, 0, " + n + ")", x -> x.looked(0, 0, n), BAD);
        refused(BoundaryTest::busy, "looked(3, 0, 1)", x -> x.looked(3, 0, 1), NULL);
        refused(BoundaryTest::busy, "looked(0, 4, 1)", x -> x.looked(0, 4, 1), PLACE);
        refused(BoundaryTest::busy, "looked(0, 3, 1), no such NODE", x -> x.looked(0, 3, 1), BAD);
        refused(BoundaryTest::busy, "looked(0, 0, 2), the second no such NODE", x -> x.looked(0, 0, 2), BAD);
    }

    private static void refusedNetCalls() {
        for (int n : outside(1, 8)) refused(BoundaryTest::busy, "feed(32, " + n + ")", x -> x.feed(32L, n), BAD);
        for (int n = 1; n <= 8; n++) {
            int many = n;
            refused(BoundaryTest::busyAndFull, "feed(32, " + n + ")", x -> x.feed(32L, many), FULL);
        }
        for (int n : outside(0, 6)) {
            refused(BoundaryTest::busy, "node(" + n + ", 0)", x -> x.node(n, 0), BAD);
            refused(BoundaryTest::busy, "fall(" + n + ", 1)", x -> x.fall(n, 1), BAD);
            refused(BoundaryTest::busy, "leaning(" + n + ")", x -> x.leaning(n), BAD);
            refused(BoundaryTest::busy, "felling(" + n + ", 0)", x -> x.felling(n, 0), BAD);
        }
        refused(BoundaryTest::busy, "node(0, 6)", x -> x.node(0, 6), BAD);
        for (int s : outside(0, 3)) {
            refused(BoundaryTest::busy, "step(" + s + ", 0)", x -> x.step(s, 0), BAD);
            refused(BoundaryTest::busy, "part(" + s + ", 0)", x -> x.part(s, 0), BAD);
            refused(BoundaryTest::busy, "doubt(" + s + ", 0, 1)", x -> x.doubt(s, 0, 1), BAD);
        }
        refused(BoundaryTest::busy, "step(0, 6)", x -> x.step(0, 6), BAD);
        refused(BoundaryTest::busy, "part(0, -1)", x -> x.part(0, -1), BAD);
        for (int k : outside(0, 0)) refused(BoundaryTest::busy, "doubt(1, " + k + ", 1)", x -> x.doubt(1, k, 1), BAD);
        for (int how : outside(0, 11)) refused(BoundaryTest::busy, "doubt(2, 0, " + how + ")", x -> x.doubt(2, 0, how), BAD);
        for (int hand : outside(0, 9)) refused(BoundaryTest::busy, "borne(" + hand + ")", x -> x.borne(hand), BAD);
        for (int is : outside(0, 1)) refused(BoundaryTest::busy, "fall(0, " + is + ")", x -> x.fall(0, is), BAD);
        refused(BoundaryTest::busy, "fall(4, 1)", x -> x.fall(4, 1), BAD);
        for (int day : new int[] {-1, 10000, MIN, MAX}) refused(BoundaryTest::busy, "day(" + day + ")", x -> x.day(day), BAD);
        for (int what : outside(0, 2)) refused(BoundaryTest::busy, "shown(" + what + ")", x -> x.shown(what), BAD);
        refused(BoundaryTest::busy, "felling(4, -2)", x -> x.felling(4, -2), BAD);
        refused(BoundaryTest::busy, "felling(6, -1)", x -> x.felling(6, -1), STATE);
        refused(BoundaryTest::busy, "felling(6, 0)", x -> x.felling(6, 0), STATE);
    }

    private static void refusedOddsCalls() {
        for (int n : outside(0, 6)) refused(BoundaryTest::busy, "weigh(" + n + ", 0, 0)", x -> x.weigh(n, 0, 0), BAD);
        refused(BoundaryTest::busy, "weigh(4, 0, 0)", x -> x.weigh(4, 0, 0), BAD);
        refused(BoundaryTest::busy, "weigh(1, 2, 1)", x -> x.weigh(1, 2, 1), BAD);
        refused(BoundaryTest::busy, "weigh(1, -1, 1)", x -> x.weigh(1, -1, 1), BAD);
        refused(BoundaryTest::busy, "weigh(1, 1, 101)", x -> x.weigh(1, 1, 101), BAD);
        refused(BoundaryTest::busy, "weigh(0, 1, 1)", x -> x.weigh(0, 1, 1), STATE);
        refused(BoundaryTest::busyAndFull, "weigh(2, 1, 1)", x -> x.weigh(2, 1, 1), STATE);
        refused(BoundaryTest::busyAndFull, "weigh(3, 1, 1)", x -> x.weigh(3, 1, 1), FULL);
        for (int k : outside(0, 1)) {
            refused(BoundaryTest::busy, "pair(0, " + k + ", 1, 1)", x -> x.pair(0, k, 1, 1), BAD);
            refused(BoundaryTest::busy, "pair(" + k + ", 1, 1, 1)", x -> x.pair(k, 1, 1, 1), BAD);
        }
        refused(BoundaryTest::busy, "pair(0, 0, 1, 1)", x -> x.pair(0, 0, 1, 1), BAD);
        refused(BoundaryTest::busy, "pair(0, 1, 2, 1)", x -> x.pair(0, 1, 2, 1), BAD);
        refused(BoundaryTest::busy, "pair(0, 1, -1, 1)", x -> x.pair(0, 1, -1, 1), BAD);
        refused(BoundaryTest::busy, "pair(0, 1, 1, 101)", x -> x.pair(0, 1, 1, 101), BAD);
        for (int n : outside(0, 6)) {
            refused(BoundaryTest::busy, "odds(" + n + ", 0)", x -> x.odds(n, 0), BAD);
            refused(BoundaryTest::busy, "raise(" + n + ")", x -> x.raise(n), BAD);
        }
        refused(BoundaryTest::busy, "odds(0, 0)", x -> x.odds(0, 0), BAD);
        refused(BoundaryTest::busy, "raise(0)", x -> x.raise(0), BAD);
        for (int what : outside(0, 3)) refused(BoundaryTest::busy, "odds(4, " + what + ")", x -> x.odds(4, what), BAD);
        refused(BoundaryTest::busyAndDisagreed, "odds(4, 0)", x -> x.odds(4, 0), STATE);
        refused(BoundaryTest::busyAndDisagreed, "odds(4, 3)", x -> x.odds(4, 3), STATE);
        refused(BoundaryTest::busyAndDisagreed, "raise(4)", x -> x.raise(4), STATE);
    }

    private static void refusedAskedCalls() {
        for (int n : outside(0, 6)) {
            refused(BoundaryTest::busy, "kind(" + n + ")", x -> x.kind(n), BAD);
            refused(BoundaryTest::busy, "as(" + n + ", 0)", x -> x.as(n, 0), BAD);
            refused(BoundaryTest::busy, "ask(" + n + ", 0)", x -> x.ask(n, 0), BAD);
        }
        for (int kind : outside(0, 5)) refused(BoundaryTest::busy, "as(0, " + kind + ")", x -> x.as(0, kind), BAD);
        for (int kind = 2; kind < 6; kind++) {
            int wanted = kind;
            refused(BoundaryTest::busy, "as(0, " + kind + ")", x -> x.as(0, wanted), KIND);
        }
        for (int what : outside(0, 1)) refused(BoundaryTest::busy, "ask(0, " + what + ")", x -> x.ask(0, what), BAD);
        for (int what : outside(0, 7)) refused(BoundaryTest::busy, "count(" + what + ")", x -> x.count(what), BAD);
        for (int i : outside(0, 15)) refused(BoundaryTest::busy, "trace(" + i + ")", x -> x.trace(i), NONE);
    }

    // ---- any arguments, and the last call

    /** Every call with every choice of edges for its arguments, on objects in three states: none may throw. */
    private static void anyArguments() {
        says("LANGUAGE.md, rule 7", "No call may ever throw or fail to end, for any arguments in any state");
        int[] edges = {MIN, -1, 0, 1, 3, 6, 7, 8, 40, 100, 9999, MAX};
        for (int state = 0; state < 3; state++) {
            for (int a : edges) {
                SafeNet x = inState(state);
                answers("of one " + a, x, y -> ofOne(y, a));
                for (int b : edges) answers("of two " + a + ", " + b, x, y -> ofTwo(y, a, b));
                for (int b : edges) {
                    SafeNet z = inState(state);
                    for (int c : edges) answers("of more " + a + ", " + b + ", " + c, z, y -> ofMore(y, a, b, c));
                }
            }
        }
    }

    private static SafeNet inState(int state) {
        return state == 0 ? new SafeNet() : state == 1 ? busy() : busyAndDisagreed();
    }

    private static void answers(String what, SafeNet x, ToIntFunction<SafeNet> calls) {
        try {
            calls.applyAsInt(x);
        } catch (RuntimeException e) {
            due("calls " + what + ", which threw " + e, 1, 0);
        }
    }

    private static int ofOne(SafeNet x, int a) {
        return x.borne(a) + x.day(a) + x.shown(a) + x.leaning(a) + x.raise(a) + x.kind(a) + x.trace(a) + x.count(a) + x.drop(a)
            + x.fault() + x.hand() + x.agree() + x.status() + x.net() + x.unweigh();
    }

    private static int ofTwo(SafeNet x, int a, int b) {
        return x.feed(a, b) + x.node(a, b) + x.step(a, b) + x.part(a, b) + x.fall(a, b) + x.felling(a, b) + x.odds(a, b) + x.as(a, b)
            + x.ask(a, b) + x.feed((long) a << 32 | b, 8);
    }

    private static int ofMore(SafeNet x, int a, int b, int c) {
        return x.sheet(a, b, c) + x.set(a, b, c) + x.looked(a, b, c) + x.doubt(a, b, c) + x.weigh(a, b, c) + x.pair(a, b, c, 100)
            + x.pair(0, 1, b, c) + x.copy(a, b, 0, c, 1) + x.copy(0, a, 0, b, c) + x.agree();
    }

    private static void lastCall() {
        says("What it is", "An object is used for at most 512 calls after it has been made");
        SafeNet x = new SafeNet();
        int calls = 0;
        for (; calls < 500; calls += 2) {
            due("feed, call " + calls, x.feed(0x20L, 1), 1);
            due("net, call " + (calls + 1), x.net(), 0);
        }
        x.feed(0x6C65616620333BL, 7);
        x.feed(0x636C61696D3BL, 6);
        x.feed(0x7374657020616E79L, 8);
        x.feed(0x203120303BL, 5);
        due("net(), call 505", x.net(), 2);
        due("doubt(0, 0, 1), call 506", x.doubt(0, 0, 1), 0);
        due("shown(0), call 507", x.shown(0), 2);
        due("felling(1, 0), call 508", x.felling(1, 0), 1);
        due("weigh(0, 60, 80), call 509", x.weigh(0, 60, 80), 1);
        due("odds(1, 0), call 510", x.odds(1, 0), 3);
        due("odds(1, 1), call 511", x.odds(1, 1), 5);
        due("raise(1), call 512", x.raise(1), 0);
    }
}
