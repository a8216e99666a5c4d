import java.lang.annotation.Retention;
import java.lang.annotation.RetentionPolicy;
import java.lang.reflect.Method;
import java.nio.file.Files;
import java.nio.file.Path;
import java.util.ArrayList;
import java.util.Arrays;
import java.util.Comparator;
import java.util.List;
import java.util.TreeMap;
import java.util.TreeSet;

/**
 * For each sentence of the document a test of its own, which quotes it. The runner also reads the
 * document: a quote that isn't there, or a sentence that no test quotes, is a failure.
 */
public final class SentencesTest {
    static final int BEYOND = -1000000001;
    static final int FULL = -1000000002;
    static final int KIND = -1000000003;
    static final int NONE = -1000000004;
    static final int STATE = -1000000005;
    static final int MISSING = -1000000006;
    static final int SIZE = -1000000007;
    static final int LOW = Integer.MIN_VALUE;
    static final int HIGH = Integer.MAX_VALUE;
    /** Tests of what stands under "Terms" and "What it is". */
    static final int TERMS = 0;

    @Retention(RetentionPolicy.RUNTIME)
    @interface Says {
        /** The number of the promise, or TERMS. */
        int at();

        String words();
    }

    interface Made {
        ManyHands make();
    }

    interface Act {
        long on(ManyHands x);
    }

    private static String running = "";
    private static int wrong = 0;
    private static int asked = 0;

    private static void due(Object want, Object got) {
        asked++;
        boolean alike = want instanceof Number && got instanceof Number
            ? ((Number) want).longValue() == ((Number) got).longValue() : want.equals(got);
        if (!alike) {
            wrong++;
            System.out.println(running + ": got " + got + ", due is " + want);
        }
    }

    private static void feed(ManyHands x, String text) {
        for (int i = 0; i < text.length(); i++) {
            x.feed(text.charAt(i), 1);
        }
    }

    private static int say(ManyHands x, String text) {
        feed(x, text);
        return x.text();
    }

    private static ManyHands with(String... texts) {
        ManyHands x = new ManyHands();
        for (int i = 0; i < texts.length; i++) {
            due(i, say(x, texts[i]));
        }
        return x;
    }

    /** A new object whose HANDS do one of these CALLS each. */
    private static ManyHands hands(int machine, String... texts) {
        ManyHands x = with(texts);
        x.machine(machine);
        for (int h = 0; h < texts.length; h++) {
            due(h, x.hand(h, -1));
        }
        return x;
    }

    private static ManyHands tell(ManyHands x, int... moves) {
        due(moves.length, x.sheet(0, 8, moves.length));
        for (int i = 0; i < moves.length; i++) {
            due(0, x.write(0, i, moves[i]));
        }
        return x;
    }

    private static String times(int n, String part) {
        return String.join(";", java.util.Collections.nCopies(n, part));
    }

    private static String keeps(int n) {
        return times(n, "keep");
    }

    private static final String ALL = "read 1;write 2;put 0 3;swap 1 2 3;add 2 1;fence;set 2";

    /** An object with something in every corner, so that a refused act has something to spoil. */
    private static ManyHands bench() {
        ManyHands x = with(ALL, "keep;again 0");
        x.hand(1, -1);
        x.cell(0, 3);
        x.image();
        x.clear();
        say(x, "put 0 1");
        x.hand(0, -1);
        x.hand(2, 2);
        x.cell(1, 2);
        x.machine(1);
        feed(x, "set 3;ke");
        x.sheet(0, 8, 2);
        x.write(0, 1, 1);
        x.sheet(1, 16, 3);
        x.write(1, 2, 500);
        x.sheet(2, 64, 0);
        return x;
    }

    /** All that can be asked of an object, which it isn't fit for use behind. */
    private static String seen(ManyHands x) {
        StringBuilder t = new StringBuilder();
        asSetUp(x, t);
        t.append(" turns ").append(x.states()).append(' ').append(x.ends()).append(' ').append(x.result(0)).append(' ')
            .append(x.orders()).append(' ').append(x.inOrder(0)).append(' ').append(x.bad()).append(' ').append(x.worst())
            .append(' ').append(x.turn(-1)).append(' ').append(x.stuck()).append(' ').append(x.round());
        for (int s = 0; s < 4; s++) {
            t.append(" sheet ").append(x.played(s)).append(' ').append(x.cost(s)).append(' ').append(x.judge(s));
            for (int i = 0; i < 41; i++) {
                t.append(' ').append(x.write(s, i, 0x123456789AL)).append(' ').append(x.write(s, i, 0L));
            }
            for (int other = 0; other < 4; other++) {
                t.append(' ').append(x.copy(s, 0, other, 0, 0));
            }
        }
        feed(x, "ep");
        t.append(" tape ").append(x.text());
        asSetUp(x, t);
        t.append(" kept ").append(x.undo());
        asSetUp(x, t);
        return t.append(' ').append(x.tear()).append(' ').append(x.wipe()).toString();
    }

    private static void asSetUp(ManyHands x, StringBuilder t) {
        for (int what = 0; what < 7; what++) {
            t.append(' ').append(x.look(what));
        }
        for (int call = 0; call < x.look(0); call++) {
            for (int step = 0; step < x.steps(call); step++) {
                for (int what = 0; what < 5; what++) {
                    t.append(' ').append(x.step(call, step, what));
                }
            }
        }
        x.sheet(3, 8, 0);
        for (int what = 10; what < 35; what++) {
            t.append(' ').append(x.after(3, what));
        }
        t.append(' ').append(x.moves(3));
        x.sheet(3, 0, 0);
    }

    private static int[] statuses(ManyHands x) {
        int[] all = new int[8];
        for (int which = -1; which <= 6; which++) {
            all[which + 1] = x.status(which);
        }
        return all;
    }

    /** The act answers a finding, which is counted once, and nothing else is otherwise than without it. */
    private static void refused(Made made, int finding, Act act) {
        ManyHands x = made.make();
        int[] want = statuses(x);
        due(finding, act.on(x));
        want[0]++;
        want[1 + BEYOND - finding]++;
        due(Arrays.toString(want), Arrays.toString(statuses(x)));
        due(seen(made.make()), seen(x));
    }

    private static void refused(int finding, Act act) {
        refused(SentencesTest::bench, finding, act);
    }

    /** Each HAND writes in one CALL and reads in the next: BAD on MACHINE 1 alone, by both reading 0. */
    private static ManyHands storeBuffering(int machine) {
        ManyHands x = with("put 0 1", "read 1", "put 1 1", "read 0");
        x.hand(0, 1);
        x.hand(2, 3);
        x.machine(machine);
        return x;
    }

    /** 6001 STATES. */
    private static ManyHands tooLarge() {
        return hands(1, "keep;swap 1 1 2;add 2 1;write 0;add 1 2;read 0;again 3",
            "add 2 1;keep;swap 1 1 3;read 0;add 1 3", "set 3;fence;fence;read 1;put 0 2;put 1 0;add 0 1");
    }

    /** 15 * 20 * 20 STATES: HANDS that have nothing to do with one another. */
    private static ManyHands justFits() {
        ManyHands x = with(keeps(7), keeps(2), times(6, "put 2 0"));
        x.machine(1);
        x.hand(0, 0);
        x.hand(1, 2);
        x.hand(1, 2);
        return x;
    }

    /** One HAND reads a CELL twice while the other one does a STEP: BAD if that changes the CELL. */
    private static ManyHands torn(String step) {
        return hands(0, step, "read 0;keep;read 0");
    }

    // ---- terms: findings, values

    @Says(at = TERMS, words = "An object is used for at most 512 calls after it has been made")
    static void fiveHundredTwelveCalls() {
        ManyHands x = new ManyHands();
        for (int i = 0; i < 511; i++) {
            x.look(7);
        }
        due(511, x.status(-1));
    }

    @Says(at = TERMS, words = "FINDINGS are answers below -1000000000: -1000000001 BEYOND, -1000000002 FULL, "
        + "-1000000003 KIND, -1000000004 NONE, -1000000005 STATE, -1000000006 MISSING, -1000000007 SIZE.")
    static void numbersOfFindings() {
        ManyHands x = bench();
        due(-1000000001, x.look(7));
        x.hand(0, -1);
        due(-1000000002, x.hand(0, -1));
        due(-1000000003, x.change(0, 0, 0));
        due(-1000000004, x.result(HIGH));
        x.write(0, 0, 9);
        due(-1000000005, x.cost(0));
        due(-1000000006, x.cost(3));
        due(-1000000007, x.sheet(0, 8, -1));
    }

    @Says(at = TERMS, words = "Each act tells its findings in the order in which they are asked")
    static void orderBeyondThenFull() {
        ManyHands x = bench();
        x.hand(0, -1);
        due(BEYOND, x.hand(3, -1));
        due(BEYOND, x.hand(0, 3));
        for (int i = 0; i < 28; i++) {
            x.feed(0, 4);
        }
        due(120, x.look(6));
        due(BEYOND, x.feed(0, 5));
        due(BEYOND, x.feed(0, 0));
    }

    @Says(at = TERMS, words = "Each act tells its findings in the order in which they are asked")
    static void orderFullThenFault() {
        ManyHands x = with("keep", "keep", "keep", "keep", "keep", "keep");
        feed(x, "nosuch");
        due(FULL, x.text());
    }

    @Says(at = TERMS, words = "Each act tells its findings in the order in which they are asked")
    static void orderBeyondThenKind() {
        ManyHands x = bench();
        due(BEYOND, x.change(0, 0, 4));
        due(BEYOND, x.step(0, 5, 5));
        due(BEYOND, x.as(0, 5, 8));
        due(BEYOND, x.heal(0, 7));
    }

    @Says(at = TERMS, words = "Each act tells its findings in the order in which they are asked")
    static void orderBeyondThenSize() {
        ManyHands x = tooLarge();
        due(BEYOND, x.result(-1));
        due(BEYOND, x.turn(-2));
        due(BEYOND, x.lead(4));
        due(BEYOND, x.heal(3, 0));
        due(BEYOND, x.sheet(4, 8, -1));
        due(BEYOND, x.sheet(0, 9, -1));
    }

    @Says(at = TERMS, words = "Each act tells its findings in the order in which they are asked")
    static void orderKindThenSize() {
        due(KIND, tooLarge().heal(0, 0));
    }

    @Says(at = TERMS, words = "Each act tells its findings in the order in which they are asked")
    static void orderSizeThenNone() {
        ManyHands x = tooLarge();
        due(SIZE, x.result(HIGH));
        due(SIZE, x.turn(HIGH));
        due(SIZE, x.worst());
        due(SIZE, x.lead(0));
    }

    @Says(at = TERMS, words = "Each act tells its findings in the order in which they are asked")
    static void orderBeyondThenMissingThenTheRest() {
        ManyHands x = bench();
        due(BEYOND, x.after(3, 3));
        due(MISSING, x.write(3, 41, 0));
        due(BEYOND, x.copy(4, 0, 3, 0, 0));
        due(BEYOND, x.copy(3, 0, 4, 0, 0));
        due(MISSING, x.copy(0, -1, 3, 0, 0));
        due(KIND, x.copy(0, -1, 1, 0, 0));
        x.write(0, 0, 9);
        due(BEYOND, x.after(0, 3));
        due(STATE, x.after(0, 0));
    }

    @Says(at = TERMS, words = "one that answers a finding changes nothing but status()")
    static void findingsChangeNothing() {
        refused(FULL, x -> {
            long answer = 0;
            for (int i = 0; i < 29; i++) {
                answer = x.feed(0, 4);
            }
            // Taken back but for the finding itself: 28 feeds of 4 bytes.
            x.wipe();
            feed(x, "set 3;ke");
            return answer;
        });
        refused(BEYOND, x -> x.look(7));
        refused(BEYOND, x -> x.status(7));
    }

    @Says(at = TERMS, words = "Sets are told by bits.")
    static void sets() {
        ManyHands x = hands(1, "put 0 1;keep", "keep", "fence");
        tell(x, 0);
        due(1 | 2 | 4 | 8, x.moves(0));
        due(1 | 2 | 4 | 8, x.heal(0, 0));
    }

    @Says(at = TERMS, words = "VALUES are 0 to 3 (sums of them modulo 4).")
    static void sumsWrapAround() {
        for (int first = 0; first < 4; first++) {
            for (int more = 0; more < 4; more++) {
                ManyHands x = hands(0, "add 1 " + more);
                x.cell(1, first);
                tell(x, 0);
                due((first + more) % 4, x.after(0, 1));
                due(first, x.after(0, 10));
                due(0, x.after(0, 0));
                due(0, x.after(0, 2));
            }
        }
    }

    @Says(at = TERMS, words = "CELLS 0 to 2 have FIRST VALUES (0 at first).")
    static void cells() {
        ManyHands x = new ManyHands();
        for (int cell = 0; cell < 3; cell++) {
            due(0, x.look(3 + cell));
            due(0, x.cell(cell, 3));
            due(3, x.look(3 + cell));
        }
        due(BEYOND, x.cell(3, 0));
        due(BEYOND, x.cell(-1, 0));
    }

    @Says(at = TERMS, words = "THE MACHINE is 0 (writes are seen at once; as at first) or 1 (late).")
    static void machines() {
        ManyHands x = hands(0, "put 0 1", "read 0");
        due(0, x.look(2));
        tell(x, 0, 1);
        due(1, x.after(0, 20));
        x.machine(1);
        due(0, x.after(0, 20));
    }

    // ---- terms: the tape, tokens, texts

    @Says(at = TERMS, words = "CALLS 0, 1, .. (at most 6) are read from THE TAPE (bytes, at most 120).")
    static void sixCalls() {
        ManyHands x = with("keep", "keep", "keep", "keep", "keep", "set 1");
        due(7, x.step(5, 0, 0));
        feed(x, "keep");
        due(FULL, x.text());
        due(6, x.look(0));
        due(BEYOND, x.steps(6));
    }

    @Says(at = TERMS, words = "CALLS 0, 1, .. (at most 6) are read from THE TAPE (bytes, at most 120).")
    static void hundredTwentyBytes() {
        ManyHands x = new ManyHands();
        feed(x, " ".repeat(116) + "keep");
        due(120, x.look(6));
        due(0, x.text());
        feed(x, " ".repeat(117) + "keep");
        due(120, x.look(6));
        due(-1 - 117, x.text());
    }

    private static void good(String text) {
        ManyHands x = new ManyHands();
        feed(x, text);
        due("[" + text + "] 0", "[" + text + "] " + x.text());
    }

    private static void fault(String text, int place) {
        ManyHands x = new ManyHands();
        feed(x, text);
        due("[" + text + "] " + (-1 - place), "[" + text + "] " + x.text());
    }

    @Says(at = TERMS, words = "TOKENS, each as long as can be: WORDS (letters a to z), NUMBERS (digits), SIGN ;; blanks may stand between.")
    static void wordsAreAsLongAsCanBe() {
        fault("keepkeep", 0);
        fault("readread 0", 0);
        fault("keepx", 0);
        fault("xkeep", 0);
        fault("kee", 0);
        fault("re ad 0", 0);
        good("read0");
    }

    @Says(at = TERMS, words = "TOKENS, each as long as can be: WORDS (letters a to z), NUMBERS (digits), SIGN ;; blanks may stand between.")
    static void numbersAreAsLongAsCanBe() {
        fault("put 01", 6);
        fault("put01", 5);
        fault("set 12", 4);
        fault("swap 0 11", 7);
        fault("swap 0 11 1", 7);
        good("put0 1");
        good("set0;read1;again0");
    }

    @Says(at = TERMS, words = "WORDS (letters a to z)")
    static void lettersAreSmallOnesAlone() {
        fault("KEEP", 0);
        fault("keeP", 0);
        fault("keepP", 4);
        fault("keep;Keep", 5);
        fault("keepz", 0);
        fault("keepa", 0);
        fault("zkeep", 0);
        fault("`", 0);
        fault("{", 0);
        fault("keep`", 4);
        fault("keep{", 4);
        fault("@", 0);
        fault("[", 0);
    }

    @Says(at = TERMS, words = "NUMBERS (digits)")
    static void digitsAlone() {
        fault("set /", 4);
        fault("set :", 4);
        fault("set 1/", 5);
        fault("set 1:", 5);
        fault("set +1", 4);
        fault("set -1", 4);
        good("set 0");
        fault("set 9", 4);
        fault("set 19", 4);
        fault("set 09", 4);
        fault("read 90", 5);
        good("again 0000000");
    }

    @Says(at = TERMS, words = "blanks may stand between")
    static void blanks() {
        good("   keep");
        good("keep   ");
        good("swap   0   1   2");
        good("keep  ;  keep");
        good("swap0 1 2;keep");
        fault("keep\t", 4);
        fault("\tkeep", 0);
        fault("keep\n", 4);
        fault("keep" + (char) 160, 4);
    }

    @Says(at = TERMS, words = "TEXT: STEP { ; STEP }, at most 7 STEPS.")
    static void sevenSteps() {
        ManyHands x = with(keeps(7), "keep");
        due(7, x.steps(0));
        due(1, x.steps(1));
        fault(keeps(8), 35);
    }

    @Says(at = TERMS, words = "TEXT: STEP { ; STEP }, at most 7 STEPS.")
    static void signsStandBetweenSteps() {
        fault(";keep", 0);
        fault("keep;;keep", 5);
        fault("keep keep", 5);
        fault("keep;", 5);
        fault("read 0 1", 7);
        fault("read 0 keep", 7);
        fault("fence 0", 6);
        fault("again 0 0", 8);
    }

    /** The text ahead of a NUMBER and the text behind it: NUMBERS to highest are fine. */
    private static void numbersTo(int highest, String ahead, String behind) {
        for (int v = 0; v <= highest; v++) {
            good(ahead + v + behind);
        }
        int[] tooHigh = {highest + 1, 8, 9, 10, 11, 100, 256, 1000};
        for (int v : tooHigh) {
            fault(ahead + v + behind, ahead.length());
        }
        String[] long0 = {"4294967296", "18446744073709551616", "4294967297", "99999999999999999999999", "1000000000000000000000"};
        for (String v : long0) {
            fault(ahead + v + behind, ahead.length());
        }
        fault(ahead, ahead.length());
        fault(ahead + "x", ahead.length());
        fault(ahead + ";", ahead.length());
    }

    @Says(at = TERMS, words = "read CELL; or write CELL; or put CELL VALUE; or swap CELL VALUE VALUE; or add CELL VALUE;")
    static void cellsInTexts() {
        numbersTo(2, "read ", "");
        numbersTo(2, "write ", "");
        numbersTo(2, "put ", " 3");
        numbersTo(2, "swap ", " 3 3");
        numbersTo(2, "add ", " 3");
    }

    @Says(at = TERMS, words = "put CELL VALUE; or swap CELL VALUE VALUE; or add CELL VALUE; or fence; or set VALUE")
    static void valuesInTexts() {
        numbersTo(3, "put 2 ", "");
        numbersTo(3, "swap 2 ", " 3");
        numbersTo(3, "swap 2 3 ", "");
        numbersTo(3, "add 2 ", "");
        numbersTo(3, "set ", "");
    }

    @Says(at = TERMS, words = "or again STEP (a NUMBER: the place of this STEP or of one ahead of it, 0 first).")
    static void placesInTexts() {
        numbersTo(0, "again ", "");
        numbersTo(1, "keep;again ", "");
        numbersTo(5, keeps(5) + ";again ", ";keep");
        numbersTo(6, keeps(6) + ";again ", "");
    }

    @Says(at = TERMS, words = "or fence; or set VALUE; or keep;")
    static void wordsAlone() {
        good("fence");
        good("keep");
        good("keep;fence;keep");
        fault("fence 1", 6);
        fault("keep 1", 5);
    }

    @Says(at = TERMS, words = "a NUMBER that is not as told")
    static void faultIsTheNumber() {
        fault("read 3;nosuch", 5);
        fault("keep;put 0 4", 11);
        fault("swap 0 0 0;again 2", 17);
    }

    @Says(at = TERMS, words = "a WORD that is none of these")
    static void faultIsTheWord() {
        fault("nosuch 9", 0);
        fault("  nosuch", 2);
        fault("keep;nosuch", 5);
        fault("read read", 5);
        fault("read 0;put 1 write", 13);
        fault("a", 0);
        fault("reads 0", 0);
        fault("fences", 0);
    }

    @Says(at = TERMS, words = "a WORD that is none of these")
    static void wordsAreKnownByEachLetter() {
        String[] texts = {"read 0", "write 0", "put 0 0", "swap 0 0 0", "add 0 0", "fence", "set 0", "keep", "again 0"};
        for (String text : texts) {
            good(text);
            for (int i = 0; Character.isLetter(text.charAt(i)); i++) {
                fault(text.substring(0, i) + "q" + text.substring(i + 1), 0);
                fault(text.substring(0, i) + text.substring(i + 1), 0);
                if (i + 1 == text.length()) {
                    break;
                }
            }
        }
    }

    @Says(at = TERMS, words = "the WORD of an eighth STEP")
    static void faultIsTheEighthWord() {
        fault(keeps(8), 35);
        fault(keeps(7) + ";  read 9", 37);
        fault(keeps(7) + ";nosuch", 35);
        fault(keeps(10), 35);
        good(keeps(7) + "  ");
    }

    @Says(at = TERMS, words = "a byte that begins no TOKEN: its own")
    static void faultIsTheByte() {
        for (int b = 0; b < 256; b++) {
            boolean begins = b == ' ' || b == ';' || b >= '0' && b <= '9' || b >= 'a' && b <= 'z';
            ManyHands x = new ManyHands();
            feed(x, "keep ");
            x.feed(b, 1);
            feed(x, "keep");
            // A blank lets the second WORD be what can't stand; else it is this byte's TOKEN.
            due("byte " + b + " " + (b == ' ' ? -7 : begins && b == ';' ? 0 : -6), "byte " + b + " " + x.text());
        }
        fault("read #", 5);
        fault("#", 0);
        fault("re#d 0", 0);
    }

    @Says(at = TERMS, words = "or how many bytes there are if it ends too early")
    static void faultIsTheEnd() {
        fault("", 0);
        fault("  ", 2);
        fault("read", 4);
        fault("read  ", 6);
        fault("put 0", 5);
        fault("put 0 ", 6);
        fault("swap 0", 6);
        fault("swap 0 1", 8);
        fault("add 0", 5);
        fault("set", 3);
        fault("again", 5);
        fault("keep;", 5);
        fault("keep; ", 6);
        fault(keeps(7) + ";", 35);
    }

    @Says(at = TERMS, words = "The FAULT is the place of the first byte of the first TOKEN that can't stand there")
    static void faultIsTheFirst() {
        fault("read 3;put 3 4;nosuch;#", 5);
        fault("#;read 3", 0);
        fault("put 3 4", 4);
        fault("put 1 4", 6);
    }

    // ---- terms: hands, steps

    @Says(at = TERMS, words = "HANDS 0, 1, .. (at most 3) do CALLS one behind the other: one, or two.")
    static void threeHands() {
        ManyHands x = with("add 0 1");
        due(0, x.hand(0, -1));
        due(1, x.hand(0, 0));
        due(2, x.hand(0, -1));
        due(FULL, x.hand(0, -1));
        due(3, x.look(1));
        tell(x, 0, 1, 1, 2);
        due(0, x.judge(0));
        due(1, x.after(0, 14));
        due(2, x.after(0, 24));
        due(1, x.after(0, 34));
    }

    @Says(at = TERMS, words = "Each has A and B (VALUES, both 0 at first, which stay from CALL to CALL)")
    static void handsKeepAAndB() {
        ManyHands x = with("set 3;keep;set 2", "write 0;again 0");
        x.hand(0, 1);
        x.sheet(0, 8, 0);
        due(0, x.after(0, 10));
        due(0, x.after(0, 11));
        tell(x, 0, 0, 0);
        due(2, x.after(0, 10));
        due(3, x.after(0, 11));
        tell(x, 0, 0, 0, 0, 0);
        due(3, x.after(0, 0));
        due(2, x.after(0, 14));
    }

    @Says(at = TERMS, words = "and WAITING writes (at most 2; none at first)")
    static void twoWait() {
        ManyHands x = hands(1, "put 0 1;put 1 1;put 2 1");
        x.sheet(0, 8, 0);
        due(0, x.after(0, 12));
        due(1, x.moves(0));
        due(1, tell(x, 0).after(0, 12));
        due(2, tell(x, 0, 0).after(0, 12));
        due(8, x.moves(0));
        due(STATE, tell(x, 0, 0, 0).after(0, 12));
        due(2, tell(x, 0, 0, 10, 0).after(0, 12));
    }

    /** CELLS, A and B behind a TURN of HAND 0. */
    private static void comesTo(ManyHands x, String want) {
        StringBuilder t = new StringBuilder();
        for (int what : new int[] {0, 1, 2, 10, 11}) {
            t.append(x.after(0, what));
        }
        due(want, t.toString());
    }

    @Says(at = TERMS, words = "0 STEP (keep: B becomes A)")
    static void keeping() {
        comesTo(tell(hands(0, "set 3;keep;set 1"), 0, 0, 0), "00013");
        for (int was = 0; was < 4; was++) {
            for (int v = 0; v < 4; v++) {
                comesTo(tell(hands(0, "set " + was + ";keep;set " + v + ";keep"), 0, 0, 0, 0), "000" + v + v);
                comesTo(tell(hands(0, "set " + was + ";keep;set " + v), 0, 0, 0), "000" + v + was);
            }
        }
    }

    @Says(at = TERMS, words = "1 READ under STEP (read: A becomes what the HAND sees in the CELL)")
    static void reading() {
        for (int cell = 0; cell < 3; cell++) {
            ManyHands x = hands(0, "read " + cell);
            x.cell(0, 3);
            x.cell(1, 2);
            x.cell(2, 1);
            comesTo(tell(x, 0), "321" + (3 - cell) + "0");
        }
    }

    @Says(at = TERMS, words = "2 WRITE under STEP (write: the CELL becomes B; put: it becomes a VALUE)")
    static void writing() {
        comesTo(tell(hands(0, "set 2;keep;set 1;write 1"), 0, 0, 0, 0), "02012");
        comesTo(tell(hands(0, "put 2 3"), 0), "00300");
        comesTo(tell(hands(0, "put 2 3;put 2 0"), 0, 0), "00000");
        // A put of 0 is no write of B.
        comesTo(tell(hands(0, "set 3;keep;put 1 0"), 0, 0, 0), "00033");
        comesTo(tell(hands(1, "set 3;keep;put 1 0"), 0, 0, 0, 10), "00033");
        comesTo(tell(hands(1, "set 2;keep;write 1;set 3;keep"), 0, 0, 0, 0, 0, 10), "02033");
    }

    @Says(at = TERMS, words = "if the CELL is the first VALUE it becomes the second one, and A 1, else A becomes 0")
    static void swapping() {
        comesTo(tell(hands(0, "swap 1 0 3"), 0), "03010");
        comesTo(tell(hands(0, "set 2;swap 1 1 3"), 0, 0), "00000");
        comesTo(tell(hands(0, "set 2;swap 1 0 0"), 0, 0), "00010");
    }

    @Says(at = TERMS, words = "4 ADD under SWAP (add: A becomes what the CELL is, and this a VALUE more)")
    static void adding() {
        comesTo(tell(hands(0, "add 1 3;add 1 3"), 0, 0), "02030");
        comesTo(tell(hands(0, "set 3;add 1 0"), 0, 0), "00000");
    }

    @Says(at = TERMS, words = "5 FENCE under STEP")
    static void fencing() {
        comesTo(tell(hands(0, "set 3;keep;fence"), 0, 0, 0), "00033");
    }

    @Says(at = TERMS, words = "if A is 0 the HAND goes on with that STEP of this CALL, else with the next one")
    static void goingOnAgain() {
        for (int a = 0; a < 4; a++) {
            ManyHands x = hands(0, "keep;set " + a + ";again 1;keep");
            tell(x, 0, 0, 0);
            due(a == 0 ? 1 : 3, x.after(0, 13));
        }
        ManyHands y = with("keep", "keep;keep;again 0");
        y.hand(0, 1);
        tell(y, 0, 0, 0, 0);
        due(0, y.after(0, 13));
        due(1, y.after(0, 14));
    }

    @Says(at = TERMS, words = "7 SET under STEP (set: A becomes a VALUE)")
    static void setting() {
        comesTo(tell(hands(0, "set 3"), 0), "00030");
        comesTo(tell(hands(0, "set 3;set 0"), 0, 0), "00000");
    }

    @Says(at = TERMS, words = "On MACHINE 0 a WRITE is done in the CELL at once.")
    static void atOnce() {
        ManyHands x = tell(hands(0, "put 0 1;put 0 2;put 0 3", "read 0"), 0, 0, 0, 1);
        due(3, x.after(0, 0));
        due(0, x.after(0, 12));
        due(3, x.after(0, 20));
        due(STATE, tell(x, 0, 10).judge(0));
    }

    @Says(at = TERMS, words = "a HAND sees in a CELL what its latest WAITING write to it would make of it, if there is one")
    static void seesItsOwnLatest() {
        String text = "put 0 1;put 0 2;read 0;read 1";
        ManyHands x = hands(1, text, "read 0");
        x.cell(1, 3);
        due(2, tell(x, 0, 0, 0).after(0, 10));
        due(3, tell(x, 0, 0, 0, 0).after(0, 10));
        due(0, tell(x, 0, 0, 1).after(0, 20));
        due(2, tell(x, 0, 0, 10, 0).after(0, 10));
        due(1, tell(x, 0, 0, 10, 1).after(0, 20));
        due(2, tell(x, 0, 0, 10, 10, 0).after(0, 10));
        ManyHands y = hands(1, "put 0 1;put 1 2;read 0;read 1");
        due(1, tell(y, 0, 0, 0).after(0, 10));
        due(2, tell(y, 0, 0, 0, 0).after(0, 10));
        ManyHands z = hands(1, "put 0 0;read 0");
        z.cell(0, 3);
        due(0, tell(z, 0, 0).after(0, 10));
    }

    @Says(at = TERMS, words = "a HAND sees in a CELL what its latest WAITING write to it would make of it, if there is one")
    static void seesItsOwnInEachCell() {
        for (int i = 0; i < 12 * 12; i++) {
            int firstCell = i / 48;
            int firstValue = i / 12 % 4;
            int cell = i % 12 / 4;
            int v = i % 4;
            for (int seen = 0; seen < 3; seen++) {
                ManyHands x = hands(1, "put " + firstCell + " " + firstValue + ";put " + cell + " " + v + ";read " + seen);
                x.cell(seen, 2);
                due(seen == cell ? v : seen == firstCell ? firstValue : 2, tell(x, 0, 0, 0).after(0, 10));
                tell(x, 0, 0, 10, 10);
                due(seen == cell ? v : seen == firstCell ? firstValue : 2, x.after(0, seen));
            }
        }
    }

    @Says(at = TERMS, words = "SWAP, ADD and FENCE can be done only if none of its own writes is WAITING")
    static void noneOfItsOwnWaits() {
        for (String step : new String[] {"swap 0 0 1", "add 0 1", "fence", "swap 0 3 1", "add 0 0"}) {
            ManyHands x = hands(1, "put 2 1;put 2 2;" + step, "put 1 1");
            due(8 | 2, tell(x, 0, 0).moves(0));
            due(8 | 2, tell(x, 0, 0, 10).moves(0));
            due(1 | 2, tell(x, 0, 0, 10, 10).moves(0));
            due(1 | 16, tell(x, 0, 0, 10, 10, 1).moves(0));
        }
        for (String step : new String[] {"read 0", "keep", "set 1", "again 0"}) {
            due(8 | 1, tell(hands(1, "put 2 1;put 2 2;" + step), 0, 0).moves(0));
        }
    }

    @Says(at = TERMS, words = "WRITE only if fewer than 2 are")
    static void fewerThanTwoWait() {
        for (String step : new String[] {"write 0", "put 0 1"}) {
            ManyHands x = hands(1, step + ";" + step + ";" + step, "put 1 1;put 1 2");
            due(8 | 1 | 2, tell(x, 0).moves(0));
            due(8 | 2, tell(x, 0, 0).moves(0));
            due(8 | 16, tell(x, 0, 0, 1, 1).moves(0));
            due(8 | 1 | 16, tell(x, 0, 0, 1, 1, 10).moves(0));
        }
    }

    // ---- terms: moves, states, ends

    @Says(at = TERMS, words = "number h: HAND h does its next STEP (the first one of its next CALL behind the last STEP of one)")
    static void nextCall() {
        ManyHands x = with("set 1;set 2", "keep;set 3");
        x.hand(0, 1);
        int[][] want = {{0, 0, 0, 0}, {1, 0, 1, 0}, {2, 0, 0, 1}, {2, 2, 1, 1}, {3, 2, 0, 2}};
        for (int done = 0; done <= 4; done++) {
            tell(x, new int[done]);
            for (int k = 0; k < 4; k++) {
                due(want[done][k], x.after(0, new int[] {10, 11, 13, 14}[k]));
            }
        }
        due(0, x.moves(0));
        due(STATE, tell(x, 0, 0, 0, 0, 0).moves(0));
    }

    @Says(at = TERMS, words = "10 + h: its oldest WAITING write comes to its CELL")
    static void oldestComesFirst() {
        ManyHands x = hands(1, "put 0 1;put 0 2", "put 1 3");
        due(1, tell(x, 0, 0, 10).after(0, 0));
        due(2, tell(x, 0, 0, 10, 10).after(0, 0));
        due(STATE, tell(x, 0, 0, 10, 10, 10).after(0, 0));
        due(STATE, tell(x, 0, 11).after(0, 0));
        due(3, tell(x, 0, 1, 11).after(0, 1));
        due(0, x.after(0, 0));
    }

    @Says(at = TERMS, words = "A STATE: VALUES of CELLS, and of each HAND the CALL and STEP that come next, A, B, and its WAITING writes.")
    static void whatMakesStatesUnlike() {
        due(2, hands(0, "put 0 0").states());
        due(3, hands(1, "put 0 0").states());
        due(6, hands(1, "put 0 1;put 0 2").states());
        due(4, hands(0, "put 0 0", "read 0").states());
        due(5, hands(0, "put 0 1", "read 0").states());
        due(11, hands(0, "put 0 1", "read 0;keep;set 0").states());
        ManyHands twice = with("keep;keep");
        twice.hand(0, 0);
        due(5, twice.states());
    }

    @Says(at = TERMS, words = "AN END: all HANDS have done all, and nothing is WAITING.")
    static void ends() {
        ManyHands x = hands(1, "put 0 1", "keep");
        due(2, tell(x, 0, 1).judge(0));
        due(2, tell(x, 0, 10).judge(0));
        due(0, tell(x, 0, 1, 10).judge(0));
        ManyHands none = new ManyHands();
        none.sheet(0, 8, 0);
        due(0, none.judge(0));
    }

    @Says(at = TERMS, words = "A TURN: MOVES one behind the other from the first STATE.")
    static void turnsBeginAtTheFirstState() {
        ManyHands x = hands(0, "add 0 1");
        x.cell(0, 2);
        tell(x, 0);
        due(3, x.after(0, 0));
        due(3, x.after(0, 0));
        x.cell(0, 0);
        due(1, x.after(0, 0));
    }

    @Says(at = TERMS, words = "ALL STATES: those to which a TURN leads (the first, too); at most 6000, else SIZE.")
    static void sixThousandStates() {
        due(1, new ManyHands().states());
        due(2, hands(0, "keep").states());
        due(6000, justFits().states());
        due(SIZE, tooLarge().states());
    }

    @Says(at = TERMS, words = "RESULT of an END: of CELL 0, 1, 2 and of HANDS 0, 1, .. (A, then B each) the VALUES, the first the highest, as digits by 4.")
    static void results() {
        ManyHands least = hands(0, "keep", "keep", "keep");
        due(0, least.result(0));
        ManyHands most = hands(0, "set 3;keep", "set 3;keep", "set 3;keep");
        for (int cell = 0; cell < 3; cell++) {
            most.cell(cell, 3);
        }
        due(262143, most.result(0));
        ManyHands x = hands(0, "set 2;keep;set 1", "set 3;keep;set 2");
        x.cell(0, 1);
        x.cell(1, 2);
        x.cell(2, 3);
        due(Integer.parseInt("1231223", 4), x.result(0));
        due(Integer.parseInt("1231223", 4), x.inOrder(0));
        ManyHands none = new ManyHands();
        none.cell(0, 1);
        none.cell(2, 3);
        due(Integer.parseInt("103", 4), none.result(0));
    }

    @Says(at = TERMS, words = "IN ORDER: whole CALLS one behind the other (of each HAND in its order), each done alone on MACHINE 0")
    static void inOrderIsOnMachine0() {
        ManyHands x = with("put 0 1;put 1 1;put 2 1;read 0", "add 0 1");
        x.machine(1);
        x.hand(0, 1);
        due(1, x.orders());
        due(Integer.parseInt("21110", 4), x.inOrder(0));
    }

    @Says(at = TERMS, words = "a CALL that comes to a STATE anew in which it was since it began never ends, and such an order gives nothing")
    static void callsThatNeverEnd() {
        due(0, hands(0, "again 0").orders());
        due(0, hands(0, "keep;again 0").orders());
        due(0, hands(0, "read 0;again 0", "keep").orders());
        ManyHands x = hands(0, "read 0;again 0", "put 0 1");
        due(1, x.orders());
        due(Integer.parseInt("1001000", 4), x.inOrder(0));
        // Three laps that are unlike, then it ends: to go round isn't to be in a STATE anew.
        ManyHands laps = hands(0, "add 0 1;swap 0 3 3;again 0");
        due(1, laps.orders());
        due(Integer.parseInt("30010", 4), laps.inOrder(0));
        // CELL 0 goes round four times for each time that CELL 1 does: 60 STEPS until all is as it was, or ends.
        String laps60 = "add 0 1;swap 0 0 0;again 0;add 1 1;";
        due(0, hands(0, laps60 + "set 0;again 0").orders());
        ManyHands ends = hands(0, laps60 + "swap 1 0 0;again 0;add 2 1");
        due(1, ends.orders());
        due(Integer.parseInt("00100", 4), ends.inOrder(0));
        // The longest that was found: 151 STEPS, each from another STATE.
        ManyHands longest = hands(0, "add 2 3;add 1 3;again 0;add 0 1;again 1;swap 2 3 2;again 3");
        due(152, longest.states());
        due(1, longest.orders());
        due(longest.result(0), longest.inOrder(0));
    }

    @Says(at = TERMS, words = "A RESULT is GOOD if some order gives it, else BAD.")
    static void goodAndBad() {
        ManyHands x = torn("put 0 1");
        due(3, x.ends());
        due(2, x.orders());
        due(1, x.bad());
        due(1, tell(x, 1, 1, 0, 1).judge(0));
        due(0, tell(x, 0, 1, 1, 1).judge(0));
        due(0, tell(x, 1, 1, 1, 0).judge(0));
    }

    @Says(at = TERMS, words = "SHEETS 0 to 3 are rows of at most 40 numbers of 8, 16 or 64 bits, or MISSING (at first).")
    static void sheetsAtFirst() {
        ManyHands x = new ManyHands();
        for (int s = 0; s < 4; s++) {
            due(MISSING, x.played(s));
            due(40, x.sheet(s, new int[] {8, 16, 64, 8}[s], 40));
            due(0, x.played(s));
        }
        due(BEYOND, x.played(4));
        due(BEYOND, x.played(-1));
    }

    // ---- promises 1 to 4: a new object, the tape

    @Says(at = 1, words = "No CALLS, HANDS")
    static void newHasNoCalls() {
        ManyHands x = new ManyHands();
        due(0, x.look(0));
        due(BEYOND, x.steps(0));
        due(0, x.image() + x.undo() - 1);
    }

    @Says(at = 1, words = "No CALLS, HANDS")
    static void newHasNoHands() {
        ManyHands x = new ManyHands();
        due(0, x.look(1));
        due(0, x.clear());
        due(1, x.states());
    }

    @Says(at = 1, words = "THE TAPE is empty")
    static void newHasAnEmptyTape() {
        ManyHands x = new ManyHands();
        due(0, x.look(6));
        due(0, x.wipe());
        due(-1, x.text());
    }

    @Says(at = 1, words = "no image is kept")
    static void newHasNoImage() {
        refused(ManyHands::new, NONE, ManyHands::undo);
        due(0, new ManyHands().tear());
    }

    @Says(at = 1, words = "No CALLS, HANDS; THE TAPE is empty, no image is kept.")
    static void newHasNothingOfAnother() {
        String fresh = seen(new ManyHands());
        bench();
        due(fresh, seen(new ManyHands()));
    }

    @Says(at = 2, words = "THE TAPE gets the n lowest bytes of a number behind it, the highest of these first (n 1 to 4): how many it has.")
    static void feedFromOneToFour() {
        ManyHands x = new ManyHands();
        due(1, x.feed('s', 1));
        due(3, x.feed('e' << 8 | 't', 2));
        due(6, x.feed(' ' << 16 | '1' << 8 | ';', 3));
        due(10, x.feed('k' << 24 | 'e' << 16 | 'e' << 8 | 'p', 4));
        due(0, x.text());
        due(2, x.steps(0));
        due(1, x.step(0, 0, 2));
    }

    @Says(at = 2, words = "the n lowest bytes of a number")
    static void feedTakesTheLowestAlone() {
        ManyHands x = new ManyHands();
        due(3, x.feed(0x7F736574, 3));
        due(4, x.feed(0xFFFFFF20, 1));
        due(5, x.feed(0x80000033, 1));
        due(0, x.text());
        due(3, x.step(0, 0, 2));
    }

    @Says(at = 2, words = "the n lowest bytes of a number")
    static void feedTakesBytesWithoutASign() {
        ManyHands x = new ManyHands();
        due(4, x.feed(-1, 4));
        due(-1, x.text());
        due(4, x.wipe());
        due(4, x.feed(0x20202080, 4));
        due(-4, x.text());
    }

    @Says(at = 2, words = "BEYOND: n.")
    static void feedTooFew() {
        refused(BEYOND, x -> x.feed(0x6B656570, 0));
        refused(BEYOND, x -> x.feed(0x6B656570, -1));
        refused(BEYOND, x -> x.feed(0x6B656570, LOW));
    }

    @Says(at = 2, words = "BEYOND: n.")
    static void feedTooMany() {
        refused(BEYOND, x -> x.feed(0x6B656570, 5));
        refused(BEYOND, x -> x.feed(0x6B656570, HIGH));
    }

    private static ManyHands fedTo(int bytes) {
        ManyHands x = new ManyHands();
        feed(x, " ".repeat(bytes));
        return x;
    }

    @Says(at = 2, words = "FULL.")
    static void feedToTheBrim() {
        for (int n = 1; n <= 4; n++) {
            due(120, fedTo(120 - n).feed(0, n));
        }
    }

    @Says(at = 2, words = "FULL.")
    static void feedOverTheBrim() {
        for (int n = 1; n <= 4; n++) {
            for (int room = 0; room < n; room++) {
                int had = 120 - room;
                int bytes = n;
                refused(() -> fedTo(had), FULL, x -> x.feed(0x6B656570, bytes));
            }
        }
    }

    @Says(at = 2, words = "FULL.")
    static void feedAnewWhenWiped() {
        ManyHands x = fedTo(120);
        due(FULL, x.feed(0, 1));
        x.wipe();
        due(4, x.feed(0, 4));
    }

    @Says(at = 3, words = "THE TAPE is empty: how many it had.")
    static void wipeAnEmptyOne() {
        ManyHands x = new ManyHands();
        due(0, x.wipe());
        due(0, x.wipe());
        due(0, x.status(-1));
    }

    @Says(at = 3, words = "THE TAPE is empty: how many it had.")
    static void wipeAFullOne() {
        ManyHands x = fedTo(120);
        due(120, x.wipe());
        due(0, x.look(6));
        due(-1, x.text());
        due(0, say(x, "keep"));
    }

    @Says(at = 4, words = "THE TAPE is a CALL: its number; THE TAPE is empty then.")
    static void textIsACall() {
        ManyHands x = new ManyHands();
        for (int i = 0; i < 6; i++) {
            due(i, say(x, "set " + i % 4));
            due(0, x.look(6));
            due(i + 1, x.look(0));
            due(i % 4, x.step(i, 0, 2));
        }
        due(0, x.step(0, 0, 2));
    }

    @Says(at = 4, words = "FULL.")
    static void textWithSixCalls() {
        Made six = () -> {
            ManyHands x = with("keep", "keep", "keep", "keep", "keep", "keep");
            feed(x, "set 3;ke");
            return x;
        };
        refused(six, FULL, ManyHands::text);
        Made empty = () -> with("keep", "keep", "keep", "keep", "keep", "keep");
        refused(empty, FULL, ManyHands::text);
    }

    @Says(at = 4, words = "FULL.")
    static void textAnewWhenUndone() {
        ManyHands x = with("keep", "keep", "keep", "keep", "keep");
        x.image();
        due(5, say(x, "set 1"));
        feed(x, "set 2");
        due(FULL, x.text());
        x.undo();
        due(5, x.text());
        due(2, x.step(5, 0, 2));
    }

    @Says(at = 4, words = "With a FAULT: -1 less the FAULT (THE TAPE stays; no finding).")
    static void textWithAFault() {
        ManyHands x = bench();
        int[] before = statuses(x);
        due(-1 - 6, x.text());
        due(-1 - 6, x.text());
        due(8, x.look(6));
        due(Arrays.toString(before), Arrays.toString(statuses(x)));
        due(seen(bench()), seen(x));
    }

    @Says(at = 4, words = "With a FAULT: -1 less the FAULT (THE TAPE stays; no finding).")
    static void textOfNothing() {
        ManyHands x = new ManyHands();
        due(-1, x.text());
        due(0, x.status(-1));
        due(0, x.look(0));
    }

    @Says(at = 4, words = "THE TAPE stays")
    static void textMendedByMoreBytes() {
        ManyHands x = new ManyHands();
        due(-5, say(x, "swap"));
        due(-9, say(x, " 0 1"));
        due(0, say(x, " 2"));
        due(2, x.step(0, 0, 3));
    }

    // ---- promises 5 to 8: steps

    @Says(at = 5, words = "How many STEPS a CALL has.")
    static void stepsFromOneToSeven() {
        ManyHands x = with("keep", keeps(7), keeps(3));
        due(1, x.steps(0));
        due(7, x.steps(1));
        due(3, x.steps(2));
    }

    @Says(at = 5, words = "BEYOND.")
    static void stepsOfNoCall() {
        for (int call : new int[] {-1, 3, 6, LOW, HIGH}) {
            refused(BEYOND, x -> x.steps(call));
        }
        refused(ManyHands::new, BEYOND, x -> x.steps(0));
    }

    @Says(at = 5, words = "BEYOND.")
    static void stepsOfACallThatWasUndone() {
        ManyHands x = bench();
        due(1, x.steps(2));
        x.undo();
        due(BEYOND, x.steps(2));
    }

    @Says(at = 6, words = "what 0 kind, 1 CELL (READ, WRITE, SWAP, ADD), 2 the VALUE (put, ADD, SET; of SWAP the first; write: -1), "
        + "3 the second VALUE (SWAP that is no ADD), 4 the STEP of an AGAIN.")
    static void stepTellsAll() {
        ManyHands x = with(ALL, "keep;again 0;again 2");
        int[][] want = {{1, 1, KIND, KIND, KIND}, {2, 2, -1, KIND, KIND}, {2, 0, 3, KIND, KIND}, {3, 1, 2, 3, KIND},
            {4, 2, 1, KIND, KIND}, {5, KIND, KIND, KIND, KIND}, {7, KIND, 2, KIND, KIND}, {0, KIND, KIND, KIND, KIND},
            {6, KIND, KIND, KIND, 0}, {6, KIND, KIND, KIND, 2}};
        for (int i = 0; i < 10; i++) {
            for (int what = 0; what < 5; what++) {
                due(want[i][what], x.step(i / 7, i % 7, what));
            }
        }
    }

    @Says(at = 6, words = "what 0 kind, 1 CELL (READ, WRITE, SWAP, ADD)")
    static void stepTellsHighestAndLeast() {
        ManyHands x = with("read 0;write 0;put 0 0;swap 0 0 0;add 0 0;set 0;again 0", "read 2;write 2;put 2 3;swap 2 3 3;add 2 3;set 3;again 6");
        for (int call = 0; call < 2; call++) {
            for (int step = 0; step < 5; step++) {
                due(2 * call, x.step(call, step, 1));
            }
            for (int step = 2; step < 6; step++) {
                due(3 * call, x.step(call, step, 2));
            }
            due(3 * call, x.step(call, 3, 3));
            due(6 * call, x.step(call, 6, 4));
        }
    }

    @Says(at = 6, words = "BEYOND.")
    static void stepOfNoCall() {
        for (int call : new int[] {-1, 3, LOW, HIGH}) {
            refused(BEYOND, x -> x.step(call, 0, 0));
        }
    }

    @Says(at = 6, words = "BEYOND.")
    static void stepThatIsNone() {
        for (int step : new int[] {-1, 7, 8, LOW, HIGH}) {
            refused(BEYOND, x -> x.step(0, step, 0));
        }
        // The next CALL's STEPS aren't this one's.
        refused(BEYOND, x -> x.step(1, 2, 0));
        refused(BEYOND, x -> x.step(2, 1, 0));
        refused(BEYOND, x -> x.step(1, -1, 0));
    }

    @Says(at = 6, words = "BEYOND.")
    static void stepsWhatIsNone() {
        for (int what : new int[] {-1, 5, LOW, HIGH}) {
            refused(BEYOND, x -> x.step(0, 0, what));
        }
    }

    @Says(at = 6, words = "KIND: it isn't of a kind that has it.")
    static void stepsWithoutIt() {
        refused(KIND, x -> x.step(0, 5, 1));
        refused(KIND, x -> x.step(0, 0, 2));
        refused(KIND, x -> x.step(0, 4, 3));
        refused(KIND, x -> x.step(0, 2, 3));
        refused(KIND, x -> x.step(0, 3, 4));
        refused(KIND, x -> x.step(1, 1, 1));
    }

    @Says(at = 7, words = "A STEP of a CALL as one of a kind: its kind.")
    static void asItsOwnAndAbove() {
        ManyHands x = with(ALL, "keep;again 0");
        int[] kinds = {1, 2, 2, 3, 4, 5, 7, 0, 6};
        for (int i = 0; i < 9; i++) {
            due(kinds[i], x.as(i / 7, i % 7, kinds[i]));
            due(kinds[i], x.as(i / 7, i % 7, 0));
        }
        due(4, x.as(0, 4, 3));
    }

    @Says(at = 7, words = "BEYOND: no such CALL, STEP, kind.")
    static void asOfNoCallOrStep() {
        for (int i : new int[] {-1, 3, LOW, HIGH}) {
            refused(BEYOND, x -> x.as(i, 0, 0));
        }
        for (int i : new int[] {-1, 7, LOW, HIGH}) {
            refused(BEYOND, x -> x.as(0, i, 0));
        }
        refused(BEYOND, x -> x.as(1, 2, 0));
    }

    @Says(at = 7, words = "BEYOND: no such CALL, STEP, kind.")
    static void asNoKind() {
        for (int kind : new int[] {-1, 8, LOW, HIGH}) {
            refused(BEYOND, x -> x.as(0, 0, kind));
        }
    }

    @Says(at = 7, words = "KIND: it isn't of that kind, nor of one under it.")
    static void asAnotherKind() {
        int[] kinds = {1, 2, 2, 3, 4, 5, 7, 0, 6};
        ManyHands x = with(ALL, "keep;again 0");
        for (int i = 0; i < 9; i++) {
            for (int kind = 1; kind < 8; kind++) {
                if (kind != kinds[i] && !(kind == 3 && kinds[i] == 4)) {
                    due(KIND, x.as(i / 7, i % 7, kind));
                }
            }
        }
        refused(KIND, y -> y.as(0, 3, 4));
        refused(KIND, y -> y.as(1, 0, 7));
    }

    @Says(at = 8, words = "The VALUE of a STEP (put, ADD, SET; of SWAP the second) becomes v: what it was.")
    static void changeToEachValue() {
        int[][] steps = {{2, 2, 3}, {3, 3, 3}, {4, 2, 1}, {6, 2, 2}};
        for (int[] s : steps) {
            ManyHands x = with(ALL);
            int was = s[2];
            for (int v : new int[] {0, 3, 3, 1, 2}) {
                due(was, x.change(0, s[0], v));
                due(v, x.step(0, s[0], s[1]));
                was = v;
            }
            due(2, x.step(0, 3, 2));
            due(0, x.status(-1));
        }
    }

    @Says(at = 8, words = "The VALUE of a STEP (put, ADD, SET; of SWAP the second) becomes v: what it was.")
    static void changeIsSeenByAllHands() {
        ManyHands x = hands(0, "put 0 1");
        due(256, x.result(0));
        due(256, x.inOrder(0));
        x.change(0, 0, 3);
        due(768, x.result(0));
        due(768, x.inOrder(0));
    }

    @Says(at = 8, words = "BEYOND: no such CALL, STEP, VALUE.")
    static void changeOfNoCallOrStep() {
        for (int i : new int[] {-1, 3, LOW, HIGH}) {
            refused(BEYOND, x -> x.change(i, 0, 0));
        }
        for (int i : new int[] {-1, 7, LOW, HIGH}) {
            refused(BEYOND, x -> x.change(0, i, 0));
        }
        refused(BEYOND, x -> x.change(2, 1, 0));
    }

    @Says(at = 8, words = "BEYOND: no such CALL, STEP, VALUE.")
    static void changeToNoValue() {
        for (int v : new int[] {-1, 4, LOW, HIGH}) {
            refused(BEYOND, x -> x.change(0, 2, v));
            refused(BEYOND, x -> x.change(0, 0, v));
        }
    }

    @Says(at = 8, words = "KIND: it has none.")
    static void changeWithoutAValue() {
        refused(KIND, x -> x.change(0, 0, 0));
        refused(KIND, x -> x.change(0, 1, 0));
        refused(KIND, x -> x.change(0, 5, 0));
        refused(KIND, x -> x.change(1, 0, 0));
        refused(KIND, x -> x.change(1, 1, 0));
    }

    // ---- promises 9 to 12: the machine, hands

    @Says(at = 9, words = "The FIRST VALUE of a CELL becomes v: what it was.")
    static void cellToEachValue() {
        for (int cell = 0; cell < 3; cell++) {
            ManyHands x = new ManyHands();
            int was = 0;
            for (int v : new int[] {3, 0, 2, 2, 1}) {
                due(was, x.cell(cell, v));
                due(v << 2 * (2 - cell), x.result(0));
                due(v << 2 * (2 - cell), x.inOrder(0));
                was = v;
            }
        }
    }

    @Says(at = 9, words = "BEYOND.")
    static void cellThatIsNone() {
        for (int cell : new int[] {-1, 3, LOW, HIGH}) {
            refused(BEYOND, x -> x.cell(cell, 0));
        }
    }

    @Says(at = 9, words = "BEYOND.")
    static void cellToNoValue() {
        for (int v : new int[] {-1, 4, LOW, HIGH}) {
            refused(BEYOND, x -> x.cell(0, v));
        }
    }

    @Says(at = 10, words = "THE MACHINE becomes m: what it was.")
    static void machineToAndFro() {
        ManyHands x = hands(0, "put 0 0");
        int was = 0;
        for (int m : new int[] {0, 1, 1, 0}) {
            due(was, x.machine(m));
            due(m, x.look(2));
            due(2 + m, x.states());
            was = m;
        }
    }

    @Says(at = 10, words = "BEYOND.")
    static void machineThatIsNone() {
        for (int m : new int[] {-1, 2, LOW, HIGH}) {
            refused(BEYOND, x -> x.machine(m));
        }
    }

    @Says(at = 11, words = "A new HAND that does a CALL, and then another one (or the same; -1: none): its number.")
    static void handWithOneOrTwoCalls() {
        ManyHands x = with("add 0 1", "add 1 1");
        due(0, x.hand(0, -1));
        due(1, x.hand(0, 1));
        due(2, x.hand(1, 1));
        tell(x, 0, 1, 1, 2, 2);
        due(0, x.judge(0));
        due(2, x.after(0, 0));
        due(3, x.after(0, 1));
        due(1, x.after(0, 14));
        due(2, x.after(0, 24));
        due(2, x.after(0, 34));
    }

    @Says(at = 11, words = "A new HAND that does a CALL, and then another one (or the same; -1: none): its number.")
    static void handIsSeenByAllTurns() {
        ManyHands x = with("put 0 1", "put 0 2");
        due(1, x.states());
        due(0, x.inOrder(0));
        x.hand(0, -1);
        due(2, x.states());
        due(256, x.result(0));
        due(256, x.inOrder(0));
        x.hand(1, -1);
        due(5, x.states());
        due(2, x.orders());
        x.hand(0, 1);
        due(2, x.ends());
    }

    @Says(at = 11, words = "BEYOND.")
    static void handWithoutACall() {
        for (int call : new int[] {-1, -2, 3, LOW, HIGH}) {
            refused(BEYOND, x -> x.hand(call, -1));
            refused(BEYOND, x -> x.hand(call, 0));
        }
        refused(ManyHands::new, BEYOND, x -> x.hand(0, -1));
        refused(ManyHands::new, BEYOND, x -> x.hand(-1, -1));
    }

    @Says(at = 11, words = "BEYOND.")
    static void handWithoutASecondCall() {
        for (int then : new int[] {-2, 3, LOW, HIGH}) {
            refused(BEYOND, x -> x.hand(0, then));
        }
    }

    @Says(at = 11, words = "FULL.")
    static void handThatIsAFourth() {
        Made three = () -> {
            ManyHands x = bench();
            due(2, x.hand(1, 2));
            return x;
        };
        refused(three, FULL, x -> x.hand(0, -1));
        refused(three, FULL, x -> x.hand(0, 1));
        ManyHands y = three.make();
        y.clear();
        due(0, y.hand(0, -1));
    }

    @Says(at = 12, words = "There are no HANDS any more: how many there were.")
    static void clearNone() {
        ManyHands x = new ManyHands();
        due(0, x.clear());
        due(0, x.status(-1));
    }

    @Says(at = 12, words = "There are no HANDS any more: how many there were.")
    static void clearThree() {
        ManyHands x = hands(1, "put 0 1", "keep", "keep");
        due(12, x.states());
        due(3, x.clear());
        due(0, x.look(1));
        due(1, x.states());
        due(1, x.orders());
        due(3, x.look(0));
        due(1, x.look(2));
        due(BEYOND, tell(x).after(0, 10));
        due(0, x.clear());
        // A HAND that comes anew has nothing of an earlier one.
        x.hand(1, -1);
        due(2, x.states());
    }

    // ---- promises 13 to 19: all turns

    @Says(at = 13, words = "How many ALL STATES are.")
    static void statesOfFew() {
        due(1, new ManyHands().states());
        due(1, hands(0, "again 0").states());
        due(8, hands(0, keeps(7)).states());
        due(8, hands(0, "keep", "keep", "keep").states());
        due(13, storeBuffering(0).states());
        due(34, storeBuffering(1).states());
    }

    @Says(at = 13, words = "SIZE.")
    static void statesToTheBrim() {
        ManyHands x = justFits();
        due(6000, x.states());
        due(0, x.status(-1));
    }

    @Says(at = 13, words = "SIZE.")
    static void statesOverTheBrim() {
        refused(SentencesTest::tooLarge, SIZE, ManyHands::states);
    }

    @Says(at = 13, words = "SIZE.")
    static void statesAnewWhenFewer() {
        ManyHands x = tooLarge();
        due(SIZE, x.states());
        x.machine(0);
        due(true, x.states() > 0);
        x.clear();
        due(1, x.states());
    }

    @Says(at = 14, words = "How many unlike RESULTS ENDS have.")
    static void endsOfNone() {
        due(0, hands(0, "again 0").ends());
        due(1, new ManyHands().ends());
        due(1, hands(0, "put 0 1", "put 0 1").ends());
        due(2, hands(0, "put 0 1", "put 0 2").ends());
        due(4, storeBuffering(1).ends());
        due(1, justFits().ends());
    }

    @Says(at = 14, words = "SIZE.")
    static void endsOfTooMany() {
        refused(SentencesTest::tooLarge, SIZE, ManyHands::ends);
    }

    @Says(at = 15, words = "The i-th RESULT (0 the least).")
    static void resultsFromTheLeast() {
        ManyHands x = hands(0, "put 0 3", "put 0 1", "put 0 2");
        for (int i = 0; i < 3; i++) {
            due((i + 1) * 65536, x.result(i));
        }
    }

    @Says(at = 15, words = "BEYOND: i is below 0.")
    static void resultBelowZero() {
        refused(BEYOND, x -> x.result(-1));
        refused(BEYOND, x -> x.result(LOW));
    }

    @Says(at = 15, words = "SIZE.")
    static void resultOfTooMany() {
        refused(SentencesTest::tooLarge, SIZE, x -> x.result(0));
    }

    @Says(at = 15, words = "NONE.")
    static void resultBehindTheLast() {
        refused(() -> hands(0, "put 0 1", "put 0 2"), NONE, x -> x.result(2));
        refused(() -> hands(0, "put 0 1", "put 0 2"), NONE, x -> x.result(HIGH));
        refused(() -> hands(0, "again 0"), NONE, x -> x.result(0));
        refused(ManyHands::new, NONE, x -> x.result(1));
    }

    @Says(at = 16, words = "How many unlike RESULTS orders give.")
    static void ordersFromNoneOn() {
        due(0, hands(0, "again 0").orders());
        due(1, new ManyHands().orders());
        due(1, hands(0, "put 0 1", "put 0 1").orders());
        due(2, hands(0, "put 0 1", "put 0 2").orders());
    }

    @Says(at = 16, words = "How many unlike RESULTS orders give.")
    static void ordersOfTooManyStates() {
        ManyHands x = tooLarge();
        due(SIZE, x.states());
        due(0, x.orders());
        ManyHands y = with(times(7, "put 2 0"), times(6, "put 2 0") + ";put 0 1");
        y.machine(1);
        y.hand(0, 0);
        y.hand(0, 0);
        y.hand(0, 1);
        due(SIZE, y.states());
        due(1, y.orders());
        due(65536, y.inOrder(0));
        due(1, y.status(-1));
    }

    /** Each HAND's B tells what CELL 0 was at its first CALL, A at its second one. */
    private static void allOrders(int[] begun, int cell, int[] before, TreeSet<Integer> results) {
        boolean over = true;
        for (int h = 0; h < 3; h++) {
            if (begun[h] < 2) {
                over = false;
                int[] nextBegun = begun.clone();
                int[] nextBefore = before.clone();
                nextBefore[2 * h + 1 - begun[h]] = cell;
                nextBegun[h]++;
                allOrders(nextBegun, (cell + 1) % 4, nextBefore, results);
            }
        }
        if (over) {
            int digits = cell * 16;
            for (int v : before) {
                digits = digits * 4 + v;
            }
            results.add(digits);
        }
    }

    @Says(at = 16, words = "How many unlike RESULTS orders give.")
    static void ordersOfSixCalls() {
        ManyHands x = with("add 0 1;keep", "add 0 1");
        for (int h = 0; h < 3; h++) {
            x.hand(0, 1);
        }
        TreeSet<Integer> want = new TreeSet<>();
        allOrders(new int[3], 0, new int[6], want);
        due(want.size(), x.orders());
        int i = 0;
        for (int result : want) {
            due(result, x.inOrder(i));
            i++;
        }
        due(NONE, x.inOrder(i));
    }

    /** Three HANDS with two CALLS each, such that each of the 90 orders gives another RESULT. */
    private static ManyHands ninetyOrders() {
        ManyHands x = with("read 1;keep;add 0 3;add 0 2", "read 2;put 1 1;set 0;add 2 1", "set 0;put 0 0;add 2 3;add 1 2",
            "read 2;add 1 3;add 2 1;add 1 2", "add 0 2;keep;write 2;write 1", "add 0 3;put 2 3;add 1 2;add 1 0");
        for (int h = 0; h < 3; h++) {
            x.hand(2 * h, 2 * h + 1);
        }
        return x;
    }

    @Says(at = 16, words = "How many unlike RESULTS orders give.")
    static void ordersThatAreAllUnlike() {
        due(90, ninetyOrders().orders());
    }

    @Says(at = 17, words = "The i-th of these (0 the least).")
    static void inOrderOfNinety() {
        ManyHands x = ninetyOrders();
        for (int i = 1; i < 90; i++) {
            due(true, x.inOrder(i - 1) < x.inOrder(i));
        }
        due(NONE, x.inOrder(90));
    }

    @Says(at = 17, words = "The i-th of these (0 the least).")
    static void inOrderFromTheLeast() {
        ManyHands x = hands(1, "put 0 3", "put 0 1", "put 0 2");
        for (int i = 0; i < 3; i++) {
            due((i + 1) * 65536, x.inOrder(i));
        }
        due(0, new ManyHands().inOrder(0));
    }

    @Says(at = 17, words = "BEYOND: i is below 0.")
    static void inOrderBelowZero() {
        refused(BEYOND, x -> x.inOrder(-1));
        refused(BEYOND, x -> x.inOrder(LOW));
    }

    @Says(at = 17, words = "NONE.")
    static void inOrderBehindTheLast() {
        refused(() -> hands(0, "put 0 1", "put 0 2"), NONE, x -> x.inOrder(2));
        refused(() -> hands(0, "put 0 1", "put 0 2"), NONE, x -> x.inOrder(HIGH));
        refused(() -> hands(0, "again 0"), NONE, x -> x.inOrder(0));
        refused(SentencesTest::tooLarge, NONE, x -> x.inOrder(0));
    }

    @Says(at = 18, words = "How many RESULTS of ENDS are BAD.")
    static void badFromNoneOn() {
        due(0, new ManyHands().bad());
        due(0, hands(0, "again 0").bad());
        due(0, storeBuffering(0).bad());
        due(1, storeBuffering(1).bad());
        due(1, torn("put 0 1").bad());
        // Each HAND waits for the other one: no order ends, so all ENDS are BAD.
        ManyHands x = hands(0, "put 0 1;read 1;again 1", "put 1 1;read 0;again 1");
        due(0, x.orders());
        due(1, x.ends());
        due(1, x.bad());
    }

    @Says(at = 18, words = "SIZE.")
    static void badOfTooMany() {
        refused(SentencesTest::tooLarge, SIZE, ManyHands::bad);
        due(0, justFits().bad());
    }

    @Says(at = 19, words = "The least BAD RESULT.")
    static void worstIsTheLeast() {
        due(Integer.parseInt("1100000", 4), storeBuffering(1).worst());
        // The reading HAND's A and B: 10, 20 and 21 are torn, 00, 11 and 22 are not.
        ManyHands x = with("put 0 1", "put 0 2", "read 0;keep;read 0");
        x.hand(0, 1);
        x.hand(2, -1);
        due(3, x.bad());
        due(Integer.parseInt("2000010", 4), x.worst());
    }

    /** In order the second HAND always finds 0; between the first one's STEPS it doesn't: all is 0 then. */
    private static ManyHands worstIsZero() {
        return hands(0, "put 0 1;put 0 0", "swap 0 0 0");
    }

    @Says(at = 19, words = "The least BAD RESULT.")
    static void worstMayBeZero() {
        ManyHands x = worstIsZero();
        due(1, x.bad());
        due(0, x.worst());
        due(0, x.status(-1));
    }

    @Says(at = 19, words = "SIZE.")
    static void worstOfTooMany() {
        refused(SentencesTest::tooLarge, SIZE, ManyHands::worst);
    }

    @Says(at = 19, words = "NONE.")
    static void worstOfNothingBad() {
        refused(() -> storeBuffering(0), NONE, ManyHands::worst);
        refused(ManyHands::new, NONE, ManyHands::worst);
        refused(() -> hands(0, "again 0"), NONE, ManyHands::worst);
    }

    // ---- promises 20 to 24: turn, stuck, round, heal, fences

    private static void turnIs(ManyHands x, int... moves) {
        due(moves.length, x.turn(-1));
        for (int i = 0; i < moves.length; i++) {
            due("move " + i + ": " + moves[i], "move " + i + ": " + x.turn(i));
        }
        due(NONE, x.turn(moves.length));
    }

    @Says(at = 20, words = "Of the shortest TURNS to an END with the least BAD RESULT that which is the least MOVE by MOVE (from the first on)")
    static void turnIsTheLeastOfTheShortest() {
        turnIs(storeBuffering(1), 0, 0, 1, 1, 10, 11);
        turnIs(torn("put 0 1"), 1, 0, 1, 1);
        turnIs(worstIsZero(), 0, 1, 0);
        ManyHands third = storeBuffering(1);
        due(4, say(third, "keep"));
        third.hand(4, -1);
        // Number 2 is less than number 10.
        turnIs(third, 0, 0, 1, 1, 2, 10, 11);
    }

    @Says(at = 20, words = "Of the shortest TURNS to an END with the least BAD RESULT")
    static void turnGoesToTheLeastBadOne() {
        ManyHands x = with("put 0 1", "put 0 2", "read 0;keep;read 0");
        x.hand(0, 1);
        x.hand(2, -1);
        // B is 0, A is 1: the first read is ahead of both writes, the second one between them.
        turnIs(x, 1, 0, 1, 1, 0);
    }

    @Says(at = 20, words = "Of the shortest TURNS")
    static void turnGoesNoLapMoreThanItMust() {
        // In order the second HAND's swap fails; it must come while the first one is between its puts.
        ManyHands x = hands(0, "put 0 1;read 1;again 1;put 0 0", "swap 0 1 1;put 1 1");
        due(true, x.bad() > 0);
        turnIs(x, 0, 1, 1, 0, 0, 0);
        due(1, x.round());
    }

    @Says(at = 20, words = "its MOVE i; i -1: how many MOVES it has.")
    static void turnsFirstAndLast() {
        ManyHands x = storeBuffering(1);
        due(6, x.turn(-1));
        due(0, x.turn(0));
        due(11, x.turn(5));
        due(0, x.status(-1));
    }

    @Says(at = 20, words = "BEYOND: i is below -1.")
    static void turnBelow() {
        refused(() -> storeBuffering(1), BEYOND, x -> x.turn(-2));
        refused(() -> storeBuffering(1), BEYOND, x -> x.turn(LOW));
        refused(() -> storeBuffering(0), BEYOND, x -> x.turn(-2));
    }

    @Says(at = 20, words = "SIZE.")
    static void turnOfTooMany() {
        refused(SentencesTest::tooLarge, SIZE, x -> x.turn(-1));
        refused(SentencesTest::tooLarge, SIZE, x -> x.turn(0));
    }

    @Says(at = 20, words = "NONE.")
    static void turnOfNothingBad() {
        refused(() -> storeBuffering(0), NONE, x -> x.turn(-1));
        refused(() -> storeBuffering(0), NONE, x -> x.turn(0));
        refused(ManyHands::new, NONE, x -> x.turn(-1));
    }

    @Says(at = 20, words = "NONE.")
    static void turnBehindTheLast() {
        refused(() -> storeBuffering(1), NONE, x -> x.turn(6));
        refused(() -> storeBuffering(1), NONE, x -> x.turn(HIGH));
    }

    @Says(at = 21, words = "Of ALL STATES how many are ones from which no TURN leads to an END.")
    static void stuckNoneSomeAll() {
        due(0, new ManyHands().stuck());
        due(0, hands(0, "keep").stuck());
        due(0, hands(0, "read 0;again 0", "put 0 1").stuck());
        due(1, hands(0, "again 0").stuck());
        due(3, hands(0, "keep;keep;again 0").stuck());
        // The swap is lost for ever once the other HAND's put is done ahead of it.
        due(2, hands(0, "put 0 1", "swap 0 0 2;again 0").stuck());
        due(2 * 2, hands(0, "keep", "again 0", "keep").stuck());
    }

    @Says(at = 21, words = "SIZE.")
    static void stuckOfTooMany() {
        refused(SentencesTest::tooLarge, SIZE, ManyHands::stuck);
        due(0, justFits().stuck());
    }

    @Says(at = 22, words = "1 if a TURN comes to a STATE in which it was, else 0.")
    static void roundOrNot() {
        due(0, new ManyHands().round());
        due(0, hands(0, "keep").round());
        due(1, hands(0, "again 0").round());
        due(1, hands(0, "keep;again 0").round());
        due(1, hands(0, "read 0;again 0", "put 0 1").round());
        due(0, hands(0, "set 1;again 0").round());
        // A STATE to which two TURNS lead isn't one to which a TURN comes twice.
        due(0, hands(0, "keep", "keep", "keep").round());
        // Goes back once, but CELL 0 isn't what it was.
        due(0, hands(0, "add 0 1;again 0").round());
        // Round only by the other HAND's doing.
        due(1, hands(0, "put 0 1", "set 1;swap 0 0 0;again 1").round());
        due(0, hands(0, "put 0 0", "set 1;swap 0 0 0;again 1").round());
    }

    @Says(at = 22, words = "1 if a TURN comes to a STATE in which it was, else 0.")
    static void roundOfTheLastStateAlone() {
        ManyHands x = hands(0, "keep;again 1");
        due(2, x.states());
        due(1, x.round());
        due(2, x.stuck());
        due(1, hands(0, "keep;keep;again 2").round());
    }

    @Says(at = 22, words = "1 if a TURN comes to a STATE in which it was, else 0.")
    static void roundAndStuckBehindOtherQuestions() {
        ManyHands x = torn("put 0 1");
        for (int i = 0; i < 3; i++) {
            due(4, x.turn(-1));
            due(0, x.round());
            due(1, x.turn(0));
            due(0, x.stuck());
        }
        ManyHands lap = hands(0, "keep;again 0");
        for (int i = 0; i < 3; i++) {
            due(1, lap.round());
            due(2, lap.stuck());
        }
        ManyHands y = hands(0, "put 0 1", "swap 0 0 2;again 0");
        for (int i = 0; i < 3; i++) {
            due(2, y.stuck());
            due(1, y.round());
            due(7, y.states());
            due(1, y.change(0, 0, 0));
            due(0, y.stuck());
            due(0, y.round());
            due(0, y.change(0, 0, 1));
        }
    }

    @Says(at = 22, words = "SIZE.")
    static void roundOfTooMany() {
        refused(SentencesTest::tooLarge, SIZE, ManyHands::round);
        due(0, justFits().round());
    }

    @Says(at = 23, words = "VALUES for which nothing is BAD, if a STEP of a CALL had one in place of its own, as a set.")
    static void healByEachKind() {
        for (int first = 0; first < 4; first++) {
            String[] texts = {"put 0 1", "swap 0 " + first + " 1", "set 1;keep;write 0", "add 0 1"};
            for (int k = 0; k < 4; k++) {
                ManyHands x = torn(texts[k]);
                x.cell(0, first);
                due(k == 3 ? 1 : 1 << first, x.heal(0, 0));
                due(1, x.step(0, 0, k == 1 ? 3 : 2));
            }
        }
    }

    @Says(at = 23, words = "VALUES for which nothing is BAD, if a STEP of a CALL had one in place of its own, as a set.")
    static void healByAllOrNone() {
        due(15, hands(0, "put 0 1").heal(0, 0));
        ManyHands x = with("put 0 1", "read 0;keep;read 0", "set 1");
        x.hand(0, -1);
        x.hand(1, -1);
        // No HAND does CALL 2: whatever it has, what was BAD stays so.
        due(0, x.heal(2, 0));
        x.change(0, 0, 0);
        due(15, x.heal(2, 0));
        due(1, x.heal(0, 0));
        due(0, x.status(-1));
    }

    @Says(at = 23, words = "VALUES for which nothing is BAD")
    static void healOfAWorstThatIsZero() {
        due(1, worstIsZero().heal(0, 0));
        due(NONE, worstIsZero().fences());
    }

    @Says(at = 23, words = "if a STEP of a CALL had one in place of its own")
    static void healChangesNothing() {
        ManyHands x = storeBuffering(1);
        String want = seen(storeBuffering(1));
        due(1, x.heal(0, 0));
        due(1, x.heal(2, 0));
        due(1, x.bad());
        due(3, x.orders());
        due(want, seen(x));
    }

    @Says(at = 23, words = "BEYOND, KIND as of change().")
    static void healOfNoCallOrStep() {
        for (int i : new int[] {-1, 3, LOW, HIGH}) {
            refused(BEYOND, x -> x.heal(i, 0));
        }
        for (int i : new int[] {-1, 7, LOW, HIGH}) {
            refused(BEYOND, x -> x.heal(0, i));
        }
        refused(BEYOND, x -> x.heal(2, 1));
    }

    @Says(at = 23, words = "BEYOND, KIND as of change().")
    static void healWithoutAValue() {
        refused(KIND, x -> x.heal(0, 0));
        refused(KIND, x -> x.heal(0, 1));
        refused(KIND, x -> x.heal(0, 5));
        refused(KIND, x -> x.heal(1, 0));
        refused(KIND, x -> x.heal(1, 1));
    }

    /** By its first VALUE the third HAND has 2 STATES (0) or 8; each of the others has 42. */
    private static ManyHands largeUnlessZero(int v) {
        ManyHands x = with(times(7, "put 2 0"), "set " + v + ";again 1;" + keeps(5));
        x.machine(1);
        x.hand(0, 0);
        x.hand(0, 0);
        x.hand(1, -1);
        return x;
    }

    @Says(at = 23, words = "SIZE: for one of them.")
    static void healWhenAnotherIsTooLarge() {
        due(2 * 42 * 42, largeUnlessZero(0).states());
        refused(() -> largeUnlessZero(0), SIZE, x -> x.heal(1, 0));
    }

    @Says(at = 23, words = "SIZE: for one of them.")
    static void healWhenItsOwnIsTooLarge() {
        for (int v = 1; v < 4; v++) {
            int own = v;
            due(SIZE, largeUnlessZero(v).states());
            refused(() -> largeUnlessZero(own), SIZE, x -> x.heal(1, 0));
        }
        refused(SentencesTest::tooLarge, SIZE, x -> x.heal(2, 0));
    }

    @Says(at = 23, words = "SIZE: for one of them.")
    static void healWhenAllJustFit() {
        ManyHands x = justFits();
        due(3, say(x, "set 1"));
        due(15, x.heal(3, 0));
        due(6000, x.states());
    }

    @Says(at = 24, words = "The fewest WRITES (of all CALLS that HANDS do) that need a FENCE right behind them (a place in the CALL of its own) so that nothing is BAD: as a set")
    static void fencesNoneOrBoth() {
        due(0, new ManyHands().fences());
        due(0, hands(1, "put 0 1").fences());
        due(0, storeBuffering(0).fences());
        due(3, storeBuffering(1).fences());
    }

    @Says(at = 24, words = "(of all CALLS that HANDS do)")
    static void fencesOfOtherCallsAreNotCounted() {
        ManyHands x = with("put 2 1", "put 0 1", "read 1", "put 2 1;put 2 1", "put 1 1", "read 0");
        x.machine(1);
        x.hand(1, 2);
        x.hand(4, 5);
        due(3, x.fences());
        // Nor is a CALL counted twice that two HANDS do.
        ManyHands y = with("put 0 1", "read 1", "put 1 1", "read 0");
        y.machine(1);
        y.hand(0, 1);
        y.hand(2, 3);
        y.hand(0, -1);
        due(3, y.fences());
    }

    @Says(at = 24, words = "FENCE right behind them (a place in the CALL of its own)")
    static void fencesHaveAPlaceOfTheirOwn() {
        // Seven STEPS, and the FENCE is an eighth place.
        ManyHands x = with("put 0 1;" + keeps(6), "read 1", "put 1 1;fence", "read 0");
        x.machine(1);
        x.hand(0, 1);
        x.hand(2, 3);
        due(1, x.fences());
        due(7, x.steps(0));
        // Behind the last STEP of a CALL, too.
        ManyHands y = with(keeps(6) + ";put 0 1", "read 1", "put 1 1;fence", "read 0");
        y.machine(1);
        y.hand(0, 1);
        y.hand(2, 3);
        due(1, y.fences());
    }

    @Says(at = 24, words = "FENCE right behind them (a place in the CALL of its own)")
    static void fencesLeaveTheGoalOfAnAgain() {
        // The AGAIN waits for HAND 2 by the read at 3; one place earlier the keep would spoil B.
        ManyHands x = with("put 0 1;set 2;keep;read 2;again 3", "read 1", "put 1 1;fence", "read 0", "put 2 1");
        x.machine(1);
        x.hand(0, 1);
        x.hand(2, 3);
        x.hand(4, -1);
        due(1, x.bad());
        due(1, x.fences());
        due(3, x.step(0, 4, 4));
    }

    @Says(at = 24, words = "FENCE right behind them (a place in the CALL of its own)")
    static void fencesAreGoneThroughOnceByAnAgainToTheStepBehind() {
        // HANDS 0 and 1 have 222 STATES and something BAD that no FENCE heals. HAND 2 goes its one way: three rounds
        // of 6 STEPS, with the FENCE ahead of the first one alone 27 STATES, ahead of each one 29.
        ManyHands x = with("put 1 0;keep;keep;add 2 1;keep;swap 2 3 3;again 1", keeps(6),
            "keep;keep;add 0 1;" + keeps(4), keeps(5), keeps(7), keeps(3) + ";read 0;keep;read 0");
        x.hand(2, 3);
        x.hand(4, 5);
        due(222, x.states());
        x.hand(0, 1);
        due(222 * 26, x.states());
        due(NONE, x.fences());
    }

    @Says(at = 24, words = "WRITES being counted by CALLS, then STEPS")
    static void fencesByCallsThenSteps() {
        // HAND 1 does CALL 0, HAND 0 CALL 2: CALLS are counted, not HANDS. The third WRITE needs it.
        ManyHands x = with("put 1 1;fence", "read 0", "put 2 1;put 0 1", "read 1");
        x.machine(1);
        x.hand(2, 3);
        x.hand(0, 1);
        due(4, x.fences());
    }

    @Says(at = 24, words = "(the first 6 alone)")
    static void fencesBehindTheSixth() {
        ManyHands x = with(times(5, "put 2 1") + ";put 0 1", "read 1", "put 1 1;fence", "read 0");
        x.machine(1);
        x.hand(0, 1);
        x.hand(2, 3);
        due(32, x.fences());
    }

    @Says(at = 24, words = "(the first 6 alone)")
    static void fencesNotBehindTheSeventh() {
        refused(() -> {
            ManyHands x = with(times(6, "put 2 1") + ";put 0 1", "read 1", "put 1 1;fence", "read 0");
            x.machine(1);
            x.hand(0, 1);
            x.hand(2, 3);
            return x;
        }, NONE, ManyHands::fences);
    }

    @Says(at = 24, words = "of like ones the least as bits")
    static void fencesTheLeastOfLikeOnes() {
        ManyHands x = with("put 0 1;put 2 1", "read 1", "put 1 1;fence", "read 0");
        x.machine(1);
        x.hand(0, 1);
        x.hand(2, 3);
        due(1, x.fences());
    }

    /** SB with CALLS of these texts, and a HAND that does nothing of note but has so many STATES. */
    private static ManyHands padded(int states, String... texts) {
        ManyHands x = with(texts);
        x.machine(1);
        x.hand(0, 1);
        x.hand(2, 3);
        int first = say(x, keeps(7));
        int then = say(x, keeps(states - 8));
        x.hand(first, then);
        return x;
    }

    @Says(at = 24, words = "SIZE: for one of the sets that are tried (by how many, then as bits).")
    static void fencesWhenNoneAtAllIsTooLarge() {
        refused(SentencesTest::tooLarge, SIZE, ManyHands::fences);
    }

    @Says(at = 24, words = "SIZE: for one of the sets that are tried (by how many, then as bits).")
    static void fencesWhenALaterSetIsTooLarge() {
        // Set 1 heals; set 2 would have 6105 STATES, but isn't tried any more.
        String[] texts = {"put 0 1;keep;keep", "read 1;" + keeps(6), "put 1 1;fence", "read 0;" + keeps(4)};
        due(5580, padded(15, texts).states());
        due(1, padded(15, texts).fences());
        texts[2] = "put 1 1;fence;fence";
        due(SIZE, padded(15, texts).states());
    }

    @Says(at = 24, words = "SIZE: for one of the sets that are tried (by how many, then as bits).")
    static void fencesWhenAnEarlierSetIsTooLarge() {
        // Set 2 would heal; but set 1 is tried ahead of it and has 6012 STATES.
        String[] texts = {"put 2 1;fence;put 0 1;keep;keep", "read 1;" + keeps(5), "put 1 1;fence;keep", "read 0;" + keeps(6)};
        due(5868, padded(12, texts).states());
        refused(() -> padded(12, texts), SIZE, ManyHands::fences);
        String[] second = texts.clone();
        second[0] = "put 2 1;fence;put 0 1;fence;keep;keep";
        due(0, padded(12, second).bad());
        second[0] = "put 2 1;fence;fence;put 0 1;keep;keep";
        due(SIZE, padded(12, second).states());
    }

    @Says(at = 24, words = "SIZE: for one of the sets that are tried (by how many, then as bits).")
    static void fencesAreTriedByHowMany() {
        // Set 4 heals, and is tried ahead of set 3, which would have 6105 STATES.
        String[] texts = {"put 2 1;fence;put 2 2;fence;put 0 1", "read 1;" + keeps(4), "put 1 1;fence;" + keeps(3), "read 0;" + keeps(4)};
        due(5745, padded(15, texts).states());
        due(4, padded(15, texts).fences());
        texts[0] = "put 2 1;fence;fence;put 2 2;fence;fence;put 0 1";
        due(SIZE, padded(15, texts).states());
    }

    /** HAND 0 has seven WRITES, twice; the others make something BAD that no FENCE heals. */
    private static ManyHands twiceSevenWrites(String... texts) {
        ManyHands x = with(times(7, "put 2 0"), texts[0], texts[1], texts[2], texts[3]);
        x.hand(1, 2);
        x.hand(3, 4);
        return x;
    }

    @Says(at = 24, words = "(a place in the CALL of its own)")
    static void fencesHaveAPlaceInEachCallThatIsDone() {
        // With six FENCES, twice, HAND 0 has 26 STEPS: 27 times as many STATES as the others.
        String[] fits = {"keep;keep;put 0 1;" + keeps(4), keeps(5), keeps(7), keeps(3) + ";read 0;keep;read 0"};
        ManyHands x = twiceSevenWrites(fits);
        due(222, x.states());
        x.hand(0, 0);
        due(222 * 15, x.states());
        due(NONE, x.fences());
        String[] tooMany = {keeps(5) + ";put 0 1;keep", keeps(5), keeps(7), keeps(4) + ";read 0;keep;read 0"};
        ManyHands y = twiceSevenWrites(tooMany);
        due(223, y.states());
        y.hand(0, 0);
        due(223 * 15, y.states());
        due(SIZE, y.fences());
    }

    @Says(at = 24, words = "NONE.")
    static void fencesThatHealNothing() {
        refused(() -> torn("put 0 1"), NONE, ManyHands::fences);
        refused(() -> torn("add 0 1"), NONE, ManyHands::fences);
        ManyHands x = torn("put 0 1");
        x.machine(1);
        due(NONE, x.fences());
    }

    @Says(at = 24, words = "The fewest WRITES (of all CALLS that HANDS do) that need a FENCE")
    static void fencesChangeNothing() {
        ManyHands x = storeBuffering(1);
        String want = seen(storeBuffering(1));
        due(3, x.fences());
        due(34, x.states());
        due(6, x.turn(-1));
        due(3, x.fences());
        due(want, seen(x));
    }

    // ---- promises 25 to 29: told turns

    private static void noSheet(Act[] acts) {
        for (Act act : acts) {
            refused(BEYOND, act);
        }
    }

    /** A MOVE that can't be done, be it the first one or the last. */
    private static void noMove(Act act) {
        for (int[] moves : new int[][] {{9}, {0, 1, 0, 11, 1, 1}, {3}, {13}, {-1}, {2}, {12}, {10}, {0, 10}}) {
            refused(() -> tell(bench(), moves), STATE, act);
        }
    }

    @Says(at = 25, words = "each MOVE 1;")
    static void costOfMovesWithoutACell() {
        ManyHands x = hands(1, "keep;set 1;fence;again 0", "keep;set 1;fence;again 0");
        due(0, tell(x).cost(0));
        due(1, tell(x, 0).cost(0));
        due(8, tell(x, 0, 1, 0, 1, 0, 1, 0, 1).cost(0));
    }

    @Says(at = 25, words = "for each MOVE that reads a CELL or changes it (SWAP, ADD;")
    static void costOfMovesWithACell() {
        for (String step : new String[] {"read 0", "write 0", "put 0 1", "put 0 0", "swap 0 0 1", "swap 0 3 1", "add 0 1", "add 0 0"}) {
            ManyHands x = hands(0, step, step, step);
            due(1, tell(x, 0).cost(0));
            due(6, tell(x, 0, 1).cost(0));
            due(11, tell(x, 2, 0, 1).cost(0));
        }
    }

    @Says(at = 25, words = "READ of a WAITING write not")
    static void costOfReadingItsOwn() {
        ManyHands x = hands(1, "put 0 1;read 0;read 0", "read 0;read 0");
        due(3, tell(x, 1, 0, 0).cost(0));
        due(3, tell(x, 0, 0, 1).cost(0));
        due(1 + 1 + 5 + 1, tell(x, 1, 0, 10, 0).cost(0));
        due(1 + 1 + 1 + 5 + 1, tell(x, 1, 0, 0, 10, 0).cost(0));
        ManyHands zero = hands(1, "put 0 0;read 0", "read 0");
        due(3, tell(zero, 1, 0, 0).cost(0));
    }

    @Says(at = 25, words = "a WRITE on MACHINE 1 not, but when it comes to its CELL")
    static void costOfALateWrite() {
        for (String step : new String[] {"put 0 1", "write 0"}) {
            ManyHands x = hands(1, step, "read 0;read 0");
            due(2, tell(x, 1, 0).cost(0));
            due(2, tell(x, 0, 1).cost(0));
            due(1 + 1 + 5, tell(x, 0, 1, 10).cost(0));
            due(1 + 1 + 5, tell(x, 0, 10, 1).cost(0));
            due(1 + 1 + 5 + 5, tell(x, 0, 1, 10, 1).cost(0));
        }
    }

    @Says(at = 25, words = "a WRITE on MACHINE 1 not, but when it comes to its CELL")
    static void costOfALateWriteToEachCell() {
        for (int cell = 0; cell < 3; cell++) {
            for (int other = 0; other < 3; other++) {
                ManyHands x = hands(1, "read " + other, "put " + cell + " 3", "read " + other);
                due(3 + (cell == other ? 4 : 0), tell(x, 0, 1, 11).cost(0));
                due(3 + (cell == other ? 4 : 0), tell(x, 1, 11, 2).cost(0));
            }
        }
    }

    @Says(at = 25, words = "4 more if the latest MOVE of this TURN that did so with that CELL was another HAND's")
    static void costByTheLatest() {
        ManyHands x = hands(0, "read 0;read 1;read 0", "read 0;read 0;read 1", "read 2");
        due(3, tell(x, 0, 0, 0).cost(0));
        due(1 + 5 + 1, tell(x, 0, 1, 1).cost(0));
        due(1 + 5 + 1 + 5, tell(x, 0, 1, 0, 0).cost(0));
        due(1 + 1 + 5 + 1, tell(x, 0, 0, 1, 2).cost(0));
        due(1 + 1 + 5 + 1 + 5, tell(x, 0, 0, 1, 1, 1).cost(0));
        // HAND 0 and CELL 0 are ones like others.
        due(1 + 5, tell(x, 1, 0).cost(0));
    }

    @Says(at = 25, words = "BEYOND: no such sheet.")
    static void costOfNoSheet() {
        noSheet(new Act[] {x -> x.cost(-1), x -> x.cost(4), x -> x.cost(LOW), x -> x.cost(HIGH)});
    }

    @Says(at = 25, words = "MISSING.")
    static void costOfAMissingOne() {
        refused(MISSING, x -> x.cost(3));
    }

    @Says(at = 25, words = "STATE: a MOVE can't be done.")
    static void costOfWhatCantBeDone() {
        noMove(x -> x.cost(0));
    }

    @Says(at = 26, words = "How many MOVES of a sheet can be done, one behind the other from the first on.")
    static void playedToTheFirstThatCant() {
        ManyHands x = hands(1, "put 0 1;fence;keep", "keep");
        due(0, tell(x).played(0));
        due(0, tell(x, 10, 0, 1).played(0));
        due(1, tell(x, 0, 0, 10, 0).played(0));
        due(5, tell(x, 0, 10, 0, 0, 1).played(0));
        due(5, tell(x, 0, 10, 0, 0, 1, 1).played(0));
        due(1, tell(x, 1, 1, 0).played(0));
        due(0, x.status(-1));
    }

    @Says(at = 26, words = "How many MOVES of a sheet can be done")
    static void playedNumbersThatAreNoMoves() {
        ManyHands x = hands(1, "put 0 1;put 0 1;keep;keep", "keep;keep");
        for (int move : new int[] {2, 3, 4, 5, 6, 7, 8, 9, 11, 12, 13, 14, 20, 100, 127, -1, -10, -128}) {
            due(1, tell(x, 0, move).played(0));
        }
        x.sheet(0, 64, 1);
        for (long move : new long[] {256, 266, 65536, 1L << 32, (1L << 32) + 1, 1L << 63, (1L << 63) + 10, -1, Long.MAX_VALUE, HIGH, LOW}) {
            x.write(0, 0, move);
            due(0, x.played(0));
        }
    }

    @Says(at = 26, words = "How many MOVES of a sheet can be done")
    static void playedNumbersThatWrapIntoMoves() {
        ManyHands x = hands(1, "put 0 1;keep");
        x.sheet(0, 8, 2);
        x.write(0, 0, 256);
        x.write(0, 1, 256 + 10);
        due(2, x.played(0));
        x.sheet(0, 16, 2);
        x.write(0, 0, 65536);
        x.write(0, 1, -65536 + 10);
        due(2, x.played(0));
        x.write(0, 1, 256 + 10);
        due(1, x.played(0));
    }

    @Says(at = 26, words = "How many MOVES of a sheet can be done")
    static void playedForty() {
        ManyHands x = with(keeps(7));
        for (int h = 0; h < 3; h++) {
            x.hand(0, 0);
        }
        x.sheet(0, 8, 40);
        for (int i = 0; i < 40; i++) {
            x.write(0, i, i / 14);
        }
        due(40, x.played(0));
        due(40, x.cost(0));
        due(4, x.moves(0));
        due(5, x.after(0, 33));
    }

    @Says(at = 26, words = "BEYOND.")
    static void playedOfNoSheet() {
        noSheet(new Act[] {x -> x.played(-1), x -> x.played(4), x -> x.played(LOW), x -> x.played(HIGH)});
    }

    @Says(at = 26, words = "MISSING.")
    static void playedOfAMissingOne() {
        refused(MISSING, x -> x.played(3));
    }

    @Says(at = 27, words = "0 its END has a GOOD RESULT, 1 a BAD one, 2 it comes to no END.")
    static void judgeEach() {
        ManyHands x = storeBuffering(1);
        due(0, tell(x, 0, 10, 0, 1, 11, 1).judge(0));
        due(1, tell(x, 0, 0, 1, 1, 10, 11).judge(0));
        due(2, tell(x, 0, 0, 1, 1, 10).judge(0));
        due(2, tell(x, 0, 10, 0, 1, 11).judge(0));
        due(2, tell(x).judge(0));
        due(0, tell(new ManyHands()).judge(0));
        due(1, tell(worstIsZero(), 0, 1, 0).judge(0));
    }

    @Says(at = 27, words = "0 its END has a GOOD RESULT, 1 a BAD one, 2 it comes to no END.")
    static void judgeOfTooManyStates() {
        ManyHands x = with(times(7, "put 2 0"), times(5, "put 2 0"));
        x.machine(1);
        x.hand(0, -1);
        x.hand(0, -1);
        x.hand(1, -1);
        due(SIZE, x.states());
        x.sheet(0, 8, 38);
        for (int i = 0; i < 38; i++) {
            x.write(0, i, i % 2 * 10 + i / 14);
        }
        due(0, x.judge(0));
        due(1, x.status(-1));
    }

    @Says(at = 27, words = "BEYOND.")
    static void judgeOfNoSheet() {
        noSheet(new Act[] {x -> x.judge(-1), x -> x.judge(4), x -> x.judge(LOW), x -> x.judge(HIGH)});
    }

    @Says(at = 27, words = "MISSING.")
    static void judgeOfAMissingOne() {
        refused(MISSING, x -> x.judge(3));
    }

    @Says(at = 27, words = "STATE: a MOVE can't be done.")
    static void judgeOfWhatCantBeDone() {
        noMove(x -> x.judge(0));
        // One MOVE more than there are.
        refused(() -> tell(storeBuffering(1), 0, 10, 0, 1, 11, 1, 1), STATE, x -> x.judge(0));
    }

    @Says(at = 28, words = "MOVES that can be done behind a sheet's TURN: bit h for number h, bit 3 + h for 10 + h, as a set.")
    static void movesOfEachHand() {
        ManyHands x = hands(1, "put 0 1", "put 0 1", "put 0 1");
        due(1 | 2 | 4, tell(x).moves(0));
        due(8 | 2 | 4, tell(x, 0).moves(0));
        due(8 | 16 | 4, tell(x, 0, 1).moves(0));
        due(8 | 16 | 32, tell(x, 0, 1, 2).moves(0));
        due(8 | 32, tell(x, 0, 1, 2, 11).moves(0));
        due(0, tell(x, 0, 1, 2, 11, 10, 12).moves(0));
        due(0, tell(new ManyHands()).moves(0));
    }

    @Says(at = 28, words = "BEYOND.")
    static void movesOfNoSheet() {
        noSheet(new Act[] {x -> x.moves(-1), x -> x.moves(4), x -> x.moves(LOW), x -> x.moves(HIGH)});
    }

    @Says(at = 28, words = "MISSING.")
    static void movesOfAMissingOne() {
        refused(MISSING, x -> x.moves(3));
    }

    @Says(at = 28, words = "STATE.")
    static void movesOfWhatCantBeDone() {
        noMove(x -> x.moves(0));
    }

    @Says(at = 29, words = "what 0 to 2 VALUE of a CELL; 10 * (h + 1), and 0 A, 1 B, 2 how many writes are WAITING")
    static void afterOfCellsAndHands() {
        ManyHands x = hands(1, "set 1;keep;set 2;put 0 3;put 1 3", "set 2;keep;set 3;put 1 1", "set 3;keep;set 1");
        x.cell(0, 1);
        x.cell(1, 2);
        x.cell(2, 3);
        tell(x, 0, 0, 0, 0, 0, 1, 1, 1, 1, 2, 2, 2, 11);
        int[][] want = {{0, 1}, {1, 1}, {2, 3}, {10, 2}, {11, 1}, {12, 2}, {20, 3}, {21, 2}, {22, 0}, {30, 1}, {31, 3}, {32, 0}};
        for (int[] w : want) {
            due("what " + w[0] + ": " + w[1], "what " + w[0] + ": " + x.after(0, w[0]));
        }
    }

    @Says(at = 29, words = "3 the place in its CALL of the STEP that comes next (0 if there is none)")
    static void afterTheNextStep() {
        ManyHands x = with("keep;keep", "set 0;again 0;keep");
        x.hand(0, 1);
        x.hand(0, -1);
        int[] want = {0, 1, 0, 1, 0};
        for (int done = 0; done < 5; done++) {
            due(want[done], tell(x, new int[done]).after(0, 13));
        }
        due(1, tell(x, 1).after(0, 23));
        due(0, tell(x, 1, 1).after(0, 23));
    }

    @Says(at = 29, words = "4 how many CALLS are done, of HAND h")
    static void afterHowManyCalls() {
        ManyHands x = with("keep;keep", "put 0 1");
        x.machine(1);
        x.hand(0, 1);
        x.hand(1, -1);
        x.hand(1, 1);
        int[] want = {0, 0, 1, 2};
        for (int done = 0; done < 4; done++) {
            due(want[done], tell(x, new int[done]).after(0, 14));
        }
        due(0, x.after(0, 24));
        // A CALL is done though its write is WAITING still.
        due(1, tell(x, 1).after(0, 24));
        due(1, tell(x, 2).after(0, 34));
        due(2, tell(x, 2, 2).after(0, 34));
    }

    @Says(at = 29, words = "BEYOND: no such sheet, what.")
    static void afterOfNoSheet() {
        noSheet(new Act[] {x -> x.after(-1, 0), x -> x.after(4, 0), x -> x.after(LOW, 0), x -> x.after(HIGH, 0)});
    }

    @Says(at = 29, words = "BEYOND: no such sheet, what.")
    static void afterOfNoWhat() {
        for (int what : new int[] {-1, 3, 4, 9, 15, 16, 19, 25, 29, 30, 31, 34, 40, 100, 1000, -10, LOW, HIGH}) {
            refused(BEYOND, x -> x.after(0, what));
            refused(BEYOND, x -> x.after(3, what));
        }
    }

    @Says(at = 29, words = "BEYOND: no such sheet, what.")
    static void afterOfNoHand() {
        ManyHands x = with("keep");
        x.sheet(0, 8, 0);
        for (int h = 0; h < 3; h++) {
            for (int what = 0; what < 5; what++) {
                due(BEYOND, x.after(0, 10 * (h + 1) + what));
            }
            x.hand(0, -1);
            for (int what = 0; what < 5; what++) {
                due(0, x.after(0, 10 * (h + 1) + what));
            }
        }
        due(BEYOND, x.after(0, 40));
    }

    @Says(at = 29, words = "MISSING.")
    static void afterOfAMissingOne() {
        refused(MISSING, x -> x.after(3, 0));
        refused(MISSING, x -> x.after(3, 24));
    }

    @Says(at = 29, words = "STATE.")
    static void afterWhatCantBeDone() {
        noMove(x -> x.after(0, 0));
        noMove(x -> x.after(0, 14));
    }

    // ---- promises 30 to 33: sheets

    @Says(at = 30, words = "A sheet has n numbers, all 0, of 8, 16 or 64 bits")
    static void sheetFromNoneToForty() {
        for (int s = 0; s < 4; s++) {
            for (int bits : new int[] {8, 16, 64}) {
                for (int n : new int[] {0, 1, 39, 40}) {
                    ManyHands x = new ManyHands();
                    due(n, x.sheet(s, bits, n));
                    for (int i = 0; i < n; i++) {
                        due(0, x.write(s, i, 7));
                    }
                    due(BEYOND, x.write(s, n, 7));
                }
            }
        }
    }

    @Says(at = 30, words = "A sheet has n numbers, all 0, of 8, 16 or 64 bits")
    static void sheetAnewIsAllZero() {
        ManyHands x = new ManyHands();
        x.sheet(0, 8, 40);
        x.sheet(1, 8, 1);
        x.write(1, 0, 3);
        for (int i = 0; i < 40; i++) {
            x.write(0, i, 7);
        }
        due(2, x.sheet(0, 8, 2));
        due(40, x.sheet(0, 16, 40));
        for (int i = 0; i < 40; i++) {
            due(0, x.write(0, i, 7));
        }
        due(3, x.write(1, 0, 3));
    }

    @Says(at = 30, words = "bits 0: it is MISSING: n (0 if it is MISSING).")
    static void sheetThatGoesMissing() {
        ManyHands x = new ManyHands();
        for (int n : new int[] {0, 1, 5, 40}) {
            due(5, x.sheet(0, 8, 5));
            due(0, x.sheet(0, 0, n));
            due(MISSING, x.write(0, 0, 1));
            due(0, x.sheet(0, 0, n));
        }
        due(5, x.sheet(0, 64, 5));
        due(0, x.write(0, 0, 1));
    }

    @Says(at = 30, words = "BEYOND: no such sheet, other bits.")
    static void sheetThatIsNone() {
        for (int s : new int[] {-1, 4, LOW, HIGH}) {
            refused(BEYOND, x -> x.sheet(s, 8, 1));
            refused(BEYOND, x -> x.sheet(s, 0, 0));
            refused(BEYOND, x -> x.sheet(s, 8, -1));
        }
    }

    @Says(at = 30, words = "BEYOND: no such sheet, other bits.")
    static void sheetOfOtherBits() {
        for (int bits : new int[] {-1, 1, 4, 7, 9, 15, 17, 24, 32, 63, 65, 128, -8, LOW, HIGH}) {
            refused(BEYOND, x -> x.sheet(0, bits, 1));
            refused(BEYOND, x -> x.sheet(0, bits, -1));
        }
    }

    @Says(at = 30, words = "SIZE: n is below 0 (also with bits 0).")
    static void sheetTooSmall() {
        for (int bits : new int[] {8, 16, 64}) {
            refused(SIZE, x -> x.sheet(0, bits, -1));
            refused(SIZE, x -> x.sheet(0, bits, LOW));
        }
    }

    @Says(at = 30, words = "(also with bits 0)")
    static void sheetTooSmallToGoMissing() {
        refused(SIZE, x -> x.sheet(0, 0, -1));
        refused(SIZE, x -> x.sheet(3, 0, LOW));
    }

    @Says(at = 30, words = "BEYOND: n is above 40.")
    static void sheetTooLarge() {
        for (int bits : new int[] {0, 8, 16, 64}) {
            refused(BEYOND, x -> x.sheet(0, bits, 41));
            refused(BEYOND, x -> x.sheet(0, bits, HIGH));
        }
    }

    /** What a number of so many bits is when v was written. */
    private static void becomes(int bits, long v, long want) {
        ManyHands x = new ManyHands();
        x.sheet(2, bits, 1);
        due(0, x.write(2, 0, v));
        due(want, x.write(2, 0, 0));
        due(0, x.write(2, 0, 0));
    }

    @Says(at = 31, words = "Number i of a sheet becomes v (its lowest bits): what it was.")
    static void writeWrapsAroundIn8Bits() {
        becomes(8, 127, 127);
        becomes(8, 128, -128);
        becomes(8, 255, -1);
        becomes(8, 256, 0);
        becomes(8, 257, 1);
        becomes(8, -128, -128);
        becomes(8, -129, 127);
        becomes(8, Long.MAX_VALUE, -1);
        becomes(8, Long.MIN_VALUE, 0);
    }

    @Says(at = 31, words = "Number i of a sheet becomes v (its lowest bits): what it was.")
    static void writeWrapsAroundIn16Bits() {
        becomes(16, 255, 255);
        becomes(16, 32767, 32767);
        becomes(16, 32768, -32768);
        becomes(16, 65535, -1);
        becomes(16, 65536, 0);
        becomes(16, -32769, 32767);
        becomes(16, Long.MAX_VALUE, -1);
        becomes(16, Long.MIN_VALUE, 0);
    }

    @Says(at = 31, words = "Number i of a sheet becomes v (its lowest bits): what it was.")
    static void writeWrapsAroundNowhereIn64Bits() {
        for (long v : new long[] {1, -1, 1L << 32, Long.MAX_VALUE, Long.MIN_VALUE, BEYOND, SIZE, HIGH + 1L}) {
            becomes(64, v, v);
        }
        ManyHands x = new ManyHands();
        x.sheet(0, 64, 1);
        x.write(0, 0, BEYOND);
        due(BEYOND, x.write(0, 0, 0));
        due(0, x.status(-1));
    }

    @Says(at = 31, words = "BEYOND: no such sheet.")
    static void writeToNoSheet() {
        noSheet(new Act[] {x -> x.write(-1, 0, 1), x -> x.write(4, 0, 1), x -> x.write(LOW, 0, 1), x -> x.write(HIGH, 0, 1)});
    }

    @Says(at = 31, words = "MISSING.")
    static void writeToAMissingOne() {
        refused(MISSING, x -> x.write(3, 0, 1));
        refused(MISSING, x -> x.write(3, -1, 1));
        refused(MISSING, x -> x.write(3, 40, 1));
    }

    @Says(at = 31, words = "BEYOND: no such number.")
    static void writeToNoNumber() {
        for (int i : new int[] {-1, 2, 39, 40, LOW, HIGH}) {
            refused(BEYOND, x -> x.write(0, i, 1));
        }
        refused(BEYOND, x -> x.write(1, 3, 1));
        refused(BEYOND, x -> x.write(2, 0, 1));
    }

    /** Sheets 0 (1 to 5) and 1 (three 0s) of 8 bits, 2 of 16 bits, none at 3. */
    private static ManyHands fiveAndThree() {
        ManyHands x = new ManyHands();
        x.sheet(0, 8, 5);
        for (int i = 0; i < 5; i++) {
            x.write(0, i, i + 1);
        }
        x.sheet(1, 8, 3);
        x.sheet(2, 16, 5);
        return x;
    }

    private static void numbersAre(ManyHands x, int s, int... want) {
        for (int i = 0; i < want.length; i++) {
            due(want[i], x.write(s, i, 0));
        }
        due(BEYOND, x.write(s, want.length, 0));
    }

    @Says(at = 32, words = "n numbers of a sheet from one on come to another one from one on (as they all were): n.")
    static void copyOfSomeNoneAndAll() {
        ManyHands x = fiveAndThree();
        due(2, x.copy(0, 3, 1, 1, 2));
        numbersAre(x, 1, 0, 4, 5);
        numbersAre(x, 0, 1, 2, 3, 4, 5);
        x = fiveAndThree();
        due(3, x.copy(1, 0, 0, 0, 3));
        numbersAre(x, 0, 0, 0, 0, 4, 5);
        x = fiveAndThree();
        due(0, x.copy(0, 0, 1, 0, 0));
        due(0, x.copy(0, 5, 1, 3, 0));
        numbersAre(x, 1, 0, 0, 0);
        due(0, x.status(-1) - 1);
    }

    @Says(at = 32, words = "(as they all were)")
    static void copyOntoItself() {
        ManyHands x = fiveAndThree();
        due(4, x.copy(0, 0, 0, 1, 4));
        numbersAre(x, 0, 1, 1, 2, 3, 4);
        x = fiveAndThree();
        due(4, x.copy(0, 1, 0, 0, 4));
        numbersAre(x, 0, 2, 3, 4, 5, 5);
        x = fiveAndThree();
        due(5, x.copy(0, 0, 0, 0, 5));
        numbersAre(x, 0, 1, 2, 3, 4, 5);
    }

    @Says(at = 32, words = "BEYOND: no such sheet (either).")
    static void copyOfNoSheet() {
        for (int s : new int[] {-1, 4, LOW, HIGH}) {
            refused(BEYOND, x -> x.copy(s, 0, 0, 0, 0));
            refused(BEYOND, x -> x.copy(0, 0, s, 0, 0));
            refused(BEYOND, x -> x.copy(3, 0, s, 0, 0));
            refused(BEYOND, x -> x.copy(s, 0, 3, 0, 0));
        }
    }

    @Says(at = 32, words = "MISSING: one is.")
    static void copyOfAMissingOne() {
        refused(MISSING, x -> x.copy(3, 0, 0, 0, 0));
        refused(MISSING, x -> x.copy(0, 0, 3, 0, 0));
        refused(MISSING, x -> x.copy(3, 0, 3, 0, 0));
        refused(MISSING, x -> x.copy(0, -1, 3, 0, 1));
    }

    @Says(at = 32, words = "KIND: they are not of as many bits.")
    static void copyOfOtherBits() {
        refused(KIND, x -> x.copy(0, 0, 1, 0, 1));
        refused(KIND, x -> x.copy(1, 0, 0, 0, 0));
        refused(KIND, x -> x.copy(1, 0, 2, 0, 0));
        refused(KIND, x -> x.copy(0, -1, 2, 99, -1));
    }

    @Says(at = 32, words = "BEYOND: one has not so many, or from, to or n is below 0.")
    static void copyOfTooMany() {
        int[][] tooMany = {{0, 0, 4}, {3, 0, 3}, {0, 1, 3}, {6, 0, 0}, {0, 4, 0}, {5, 0, 1}, {0, 3, 1}};
        for (int[] c : tooMany) {
            refused(SentencesTest::fiveAndThree, BEYOND, x -> x.copy(0, c[0], 1, c[1], c[2]));
            refused(SentencesTest::fiveAndThree, BEYOND, x -> x.copy(1, c[1], 0, c[0], c[2]));
        }
        refused(SentencesTest::fiveAndThree, BEYOND, x -> x.copy(0, 0, 0, 0, 6));
    }

    @Says(at = 32, words = "BEYOND: one has not so many, or from, to or n is below 0.")
    static void copyBelowZero() {
        int[][] below = {{-1, 0, 1}, {0, -1, 1}, {0, 0, -1}, {-1, 0, 0}, {0, -1, 0}, {LOW, 0, 0}, {0, LOW, 0}, {0, 0, LOW}, {1, 1, -1},
            {-1, -1, -1}};
        for (int[] c : below) {
            refused(SentencesTest::fiveAndThree, BEYOND, x -> x.copy(0, c[0], 1, c[1], c[2]));
        }
    }

    @Says(at = 32, words = "BEYOND: one has not so many, or from, to or n is below 0.")
    static void copyWithSumsThatWrapAround() {
        int[][] wraps = {{HIGH, 0, 1}, {0, HIGH, 1}, {1, 0, HIGH}, {0, 1, HIGH}, {HIGH, HIGH, HIGH}, {LOW, LOW, LOW}, {2, 2, HIGH - 1},
            {HIGH, HIGH, 0}, {LOW, 0, HIGH}, {LOW, LOW, HIGH}, {-1, 0, HIGH}};
        for (int[] c : wraps) {
            refused(SentencesTest::fiveAndThree, BEYOND, x -> x.copy(0, c[0], 1, c[1], c[2]));
        }
    }

    @Says(at = 33, words = "A sheet becomes the TURN of turn() (of 8 bits): how many MOVES.")
    static void leadOntoEachSheet() {
        for (int s = 0; s < 4; s++) {
            ManyHands x = storeBuffering(1);
            x.sheet(s, 64, 40);
            x.write(s, 39, 9);
            due(6, x.lead(s));
            due(1, x.judge(s));
            due(14, x.cost(s));
            int[] turn = {0, 0, 1, 1, 10, 11};
            for (int i = 0; i < 6; i++) {
                due(turn[i], x.write(s, i, 0x1FF));
                due(-1, x.write(s, i, 0));
            }
            due(BEYOND, x.write(s, 6, 0));
        }
    }

    @Says(at = 33, words = "A sheet becomes the TURN of turn() (of 8 bits): how many MOVES.")
    static void leadFromItsFirstMoveOn() {
        ManyHands x = torn("put 0 1");
        due(4, x.lead(1));
        numbersAre(x, 1, 1, 0, 1, 1);
    }

    /** A TURN to what is BAD has 35 MOVES and those of so many FENCES. */
    private static ManyHands longTurn(int fences) {
        ManyHands x = with(times(5, "fence") + ";add 2 1;again 0", "put 0 1;" + times(5, "fence") + ";read 1",
            times(7, "fence"), "put 1 1;" + times(5, "fence") + ";read 0", times(fences, "fence"));
        x.hand(0, 1);
        x.hand(2, 3);
        x.hand(4, -1);
        return x;
    }

    @Says(at = 33, words = "A sheet becomes the TURN of turn() (of 8 bits): how many MOVES.")
    static void leadOfForty() {
        ManyHands x = longTurn(5);
        due(40, x.turn(-1));
        due(40, x.lead(3));
        due(1, x.judge(3));
    }

    @Says(at = 33, words = "BEYOND: no such sheet.")
    static void leadToNoSheet() {
        noSheet(new Act[] {x -> x.lead(-1), x -> x.lead(4), x -> x.lead(LOW), x -> x.lead(HIGH)});
        refused(() -> storeBuffering(1), BEYOND, x -> x.lead(4));
    }

    @Says(at = 33, words = "SIZE.")
    static void leadOfTooMany() {
        refused(() -> tell(tooLarge(), 0, 1), SIZE, x -> x.lead(0));
    }

    @Says(at = 33, words = "NONE.")
    static void leadOfNothingBad() {
        refused(() -> tell(storeBuffering(0), 0, 1), NONE, x -> x.lead(0));
        refused(ManyHands::new, NONE, x -> x.lead(0));
    }

    @Says(at = 33, words = "FULL: more than 40 MOVES.")
    static void leadOfFortyOne() {
        due(41, longTurn(6).turn(-1));
        refused(() -> tell(longTurn(6), 0, 1), FULL, x -> x.lead(0));
    }

    // ---- promises 34 to 38: images, look, status

    @Says(at = 34, words = "CALLS, HANDS, FIRST VALUES and THE MACHINE are kept: 1.")
    static void imageOfEach() {
        ManyHands x = with("put 0 1;swap 1 2 3;add 1 1;set 2");
        x.hand(0, -1);
        x.cell(0, 1);
        x.cell(1, 2);
        x.cell(2, 3);
        x.machine(1);
        due(1, x.image());
        due(1, x.image());
        for (int step = 0; step < 4; step++) {
            x.change(0, step, 0);
        }
        say(x, "keep");
        x.clear();
        x.hand(1, 0);
        x.hand(1, -1);
        for (int cell = 0; cell < 3; cell++) {
            x.cell(cell, 0);
        }
        x.machine(0);
        due(1, x.undo());
        int[] looks = {1, 1, 1, 1, 2, 3, 0};
        for (int what = 0; what < 7; what++) {
            due(looks[what], x.look(what));
        }
        due(1, x.step(0, 0, 2));
        due(3, x.step(0, 1, 3));
        due(1, x.step(0, 2, 2));
        due(2, x.step(0, 3, 2));
        due(1, tell(x, 0).after(0, 13));
        due(1, x.after(0, 12));
    }

    @Says(at = 34, words = "CALLS, HANDS, FIRST VALUES and THE MACHINE are kept: 1.")
    static void imageOfBothCallsOfAHand() {
        int[][] pairs = {{0, -1}, {0, 0}, {0, 1}, {1, 0}, {1, -1}};
        for (int[] kept : pairs) {
            for (int[] other : pairs) {
                ManyHands x = with("add 0 1", "add 1 1;add 1 1");
                x.hand(kept[0], kept[1]);
                x.image();
                int states = x.states();
                int result = x.result(0);
                x.clear();
                x.hand(other[0], other[1]);
                due(2, x.undo());
                due(states, x.states());
                due(result, x.result(0));
            }
        }
    }

    @Says(at = 34, words = "CALLS, HANDS, FIRST VALUES and THE MACHINE are kept: 1.")
    static void imageOfNothing() {
        ManyHands x = new ManyHands();
        due(1, x.image());
        say(x, "keep");
        x.hand(0, -1);
        x.cell(0, 1);
        x.machine(1);
        due(0, x.undo());
        due(seen(new ManyHands()), seen(withoutImage(x)));
    }

    private static ManyHands withoutImage(ManyHands x) {
        x.tear();
        return x;
    }

    @Says(at = 34, words = "CALLS, HANDS, FIRST VALUES and THE MACHINE are kept: 1.")
    static void imageKeepsNoTapeAndNoSheets() {
        ManyHands x = new ManyHands();
        feed(x, "keep");
        x.sheet(0, 8, 2);
        x.write(0, 0, 5);
        x.image();
        x.wipe();
        feed(x, "set 1;");
        x.sheet(0, 16, 3);
        x.write(0, 2, 6);
        x.sheet(1, 8, 1);
        due(0, x.undo());
        due(6, x.look(6));
        due(6, x.write(0, 2, 6));
        due(0, x.write(1, 0, 0));
    }

    @Says(at = 35, words = "They become what was kept latest (which stays): how many CALLS.")
    static void undoToTheLatest() {
        ManyHands x = with("set 0");
        x.image();
        x.change(0, 0, 1);
        say(x, "keep");
        x.image();
        x.change(0, 0, 2);
        say(x, "keep");
        due(2, x.undo());
        due(1, x.step(0, 0, 2));
    }

    @Says(at = 35, words = "(which stays)")
    static void undoAgainAndAgain() {
        ManyHands x = with("set 1");
        x.image();
        for (int i = 0; i < 3; i++) {
            x.change(0, 0, i);
            say(x, "keep");
            due(1, x.undo());
            due(1, x.undo());
            due(1, x.step(0, 0, 2));
            due(1, x.look(0));
        }
        due(1, x.tear());
    }

    @Says(at = 35, words = "They become what was kept latest (which stays): how many CALLS.")
    static void undoIsSeenByAllTurns() {
        ManyHands x = storeBuffering(1);
        x.image();
        due(34, x.states());
        due(1, x.bad());
        x.machine(0);
        due(13, x.states());
        due(0, x.bad());
        x.undo();
        due(34, x.states());
        due(1, x.bad());
        due(6, x.turn(-1));
    }

    @Says(at = 35, words = "NONE: nothing is kept.")
    static void undoOfNothing() {
        refused(ManyHands::new, NONE, ManyHands::undo);
        refused(() -> withoutImage(bench()), NONE, ManyHands::undo);
    }

    @Says(at = 36, words = "Nothing is kept: 1 if something was, else 0.")
    static void tearOnceAndAnew() {
        ManyHands x = bench();
        due(1, x.tear());
        due(0, x.tear());
        due(NONE, x.undo());
        due(3, x.look(0));
        x.image();
        due(3, x.undo());
        due(1, x.tear());
        due(0, new ManyHands().tear());
        ManyHands empty = new ManyHands();
        empty.image();
        due(1, empty.tear());
    }

    @Says(at = 37, words = "0 CALLS, 1 HANDS, 2 THE MACHINE, 3 to 5 FIRST VALUES of CELLS, 6 bytes of THE TAPE.")
    static void lookAtEach() {
        ManyHands x = with("keep");
        x.hand(0, -1);
        x.hand(0, 0);
        x.machine(1);
        x.cell(0, 3);
        x.cell(1, 2);
        x.cell(2, 1);
        x.feed(0, 4);
        int[] want = {1, 2, 1, 3, 2, 1, 4};
        for (int what = 0; what < 7; what++) {
            due(want[what], x.look(what));
        }
    }

    @Says(at = 37, words = "0 CALLS, 1 HANDS, 2 THE MACHINE, 3 to 5 FIRST VALUES of CELLS, 6 bytes of THE TAPE.")
    static void lookAtTheFullest() {
        ManyHands x = with("keep", "keep", "keep", "keep", "keep", "keep");
        for (int h = 0; h < 3; h++) {
            x.hand(5, 5);
        }
        feed(x, " ".repeat(120));
        due(6, x.look(0));
        due(3, x.look(1));
        due(120, x.look(6));
    }

    @Says(at = 37, words = "BEYOND: another what.")
    static void lookAtAnother() {
        for (int what : new int[] {-1, 7, 8, LOW, HIGH}) {
            refused(BEYOND, x -> x.look(what));
        }
    }

    @Says(at = 38, words = "How many acts answered a finding ever (undo() takes none back): which -1: all, 0 to 6: BEYOND to SIZE.")
    static void statusOfEach() {
        Act[] acts = {x -> x.look(7), x -> x.hand(0, -1), x -> x.change(1, 0, 0), ManyHands::worst, x -> x.cost(0), x -> x.cost(1),
            x -> x.sheet(0, 8, -1)};
        ManyHands x = with("put 0 1", "keep");
        for (int h = 0; h < 3; h++) {
            x.hand(0, -1);
        }
        x.sheet(0, 8, 1);
        x.write(0, 0, 9);
        int[] want = new int[8];
        for (int which = 0; which < 7; which++) {
            for (int k = 0; k <= which; k++) {
                due(BEYOND - which, acts[which].on(x));
                want[0]++;
                want[which + 1]++;
                due(Arrays.toString(want), Arrays.toString(statuses(x)));
            }
        }
    }

    @Says(at = 38, words = "How many acts answered a finding ever (undo() takes none back)")
    static void statusOfNone() {
        ManyHands x = new ManyHands();
        x.text();
        x.sheet(0, 64, 1);
        x.write(0, 0, SIZE);
        x.write(0, 0, 0);
        x.played(0);
        due(Arrays.toString(new int[8]), Arrays.toString(statuses(x)));
    }

    @Says(at = 38, words = "(undo() takes none back)")
    static void statusStaysWhenUndone() {
        ManyHands x = new ManyHands();
        x.look(9);
        x.image();
        x.look(9);
        x.worst();
        x.undo();
        due(3, x.status(-1));
        due(2, x.status(0));
        due(1, x.status(3));
        x.tear();
        x.undo();
        due(2, x.status(3));
    }

    @Says(at = 38, words = "BEYOND (counted from then on): another one.")
    static void statusOfAnother() {
        for (int which : new int[] {-2, 7, 8, LOW, HIGH}) {
            refused(BEYOND, x -> x.status(which));
            ManyHands x = new ManyHands();
            due(BEYOND, x.status(which));
            due(1, x.status(-1));
            due(1, x.status(0));
            due(BEYOND, x.status(which));
            due(2, x.status(-1));
            due(2, x.status(0));
        }
    }

    // ---- the runner

    /** Sentences of the document by promise; those ahead of the promises but for the face are TERMS. */
    private static TreeMap<Integer, List<String>> sentences(String document) {
        TreeMap<Integer, List<String>> all = new TreeMap<>();
        String[] parts = document.split("\n## ");
        for (String part : parts) {
            String body = part.substring(part.indexOf('\n') + 1).replace("```text", "").replace("```", "");
            if (part.startsWith("Promise ")) {
                int number = Integer.parseInt(part.substring(8, part.indexOf(':')));
                all.put(number, split(body.replaceAll("^\\s*`[^`]*`:", "")));
            } else if (part.startsWith("Terms")) {
                int end = body.indexOf("Ahead of the calls");
                all.put(TERMS, split(body.substring(0, end < 0 ? body.length() : end).replaceAll("(?m)^[0-9]\\. ", "")));
            }
        }
        return all;
    }

    private static List<String> split(String text) {
        return new ArrayList<>(List.of(text.trim().replaceAll("\\s+", " ").split("(?<=[^.]\\.) (?=[A-Z])")));
    }

    /** A quote covers the sentences that it stands in, or that stand in it. */
    private static void holdAgainstTheDocument(List<Method> tests) throws Exception {
        Path path = Path.of("../shared/DOC.md");
        if (!Files.isReadable(path)) {
            System.out.println("the document isn't here: quotes are not looked up");
            return;
        }
        String document = Files.readString(path);
        String flat = document.replaceAll("\\s+", " ");
        TreeMap<Integer, List<String>> open = sentences(document);
        due(39, open.size());
        for (Method test : tests) {
            Says says = test.getAnnotation(Says.class);
            List<String> all = open.getOrDefault(says.at(), List.of());
            boolean isThere = says.at() == TERMS ? flat.contains(says.words()) : sentences(document).get(says.at()).stream()
                .anyMatch(s -> s.contains(says.words()) || says.words().contains(s));
            due(test.getName() + " quotes what is there", test.getName() + (isThere ? " quotes what is there" : " misquotes"));
            all.removeIf(s -> s.contains(says.words()) || says.words().contains(s));
        }
        for (int at : open.keySet()) {
            due(at + " without a test: []", at + " without a test: " + open.get(at));
        }
    }

    public static void main(String[] args) throws Exception {
        List<Method> tests = new ArrayList<>();
        for (Method m : SentencesTest.class.getDeclaredMethods()) {
            if (m.isAnnotationPresent(Says.class)) {
                tests.add(m);
            }
        }
        tests.sort(Comparator.comparingInt((Method m) -> m.getAnnotation(Says.class).at()).thenComparing(Method::getName));
        for (Method test : tests) {
            running = "promise " + test.getAnnotation(Says.class).at() + ", " + test.getName();
            test.invoke(null);
        }
        running = "the document";
        holdAgainstTheDocument(tests);
        System.out.println(tests.size() + " tests, " + asked + " answers asked, " + wrong + " are not as due");
        if (wrong != 0) {
            System.exit(1);
        }
    }
}
