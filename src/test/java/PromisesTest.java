/** For each promise of the document: ordinary inputs, the edges that it names, and wrong inputs. */
public final class PromisesTest {
    static final int BEYOND = -1000000001;
    static final int FULL = -1000000002;
    static final int KIND = -1000000003;
    static final int NONE = -1000000004;
    static final int STATE = -1000000005;
    static final int MISSING = -1000000006;
    static final int SIZE = -1000000007;
    static final int LOW = Integer.MIN_VALUE;
    static final int HIGH = Integer.MAX_VALUE;

    private static int wrong = 0;
    private static int asked = 0;

    private static void due(String what, long want, long got) {
        asked++;
        if (got != want) {
            wrong++;
            System.out.println(what + " answered " + got + ", due is " + want);
        }
    }

    private static void feed(ManyHands x, String text) {
        for (int i = 0; i < text.length(); i++) {
            x.feed(text.charAt(i), 1);
        }
    }

    private static int say(ManyHands x, String text) {
        feed(x, text);
        return x.text();
    }

    /** A new object with these CALLS. */
    private static ManyHands with(String... texts) {
        ManyHands x = new ManyHands();
        for (int i = 0; i < texts.length; i++) {
            due("text " + texts[i], i, say(x, texts[i]));
        }
        return x;
    }

    private static void tell(ManyHands x, int s, int... moves) {
        x.sheet(s, 8, moves.length);
        for (int i = 0; i < moves.length; i++) {
            x.write(s, i, moves[i]);
        }
    }

    private static String repeat(String part, int n) {
        StringBuilder t = new StringBuilder(part);
        for (int i = 1; i < n; i++) {
            t.append(';').append(part);
        }
        return t.toString();
    }

    private static void newObject() {
        ManyHands x = new ManyHands();
        for (int what = 0; what <= 6; what++) {
            due("1 look " + what, 0, x.look(what));
        }
        due("1 undo", NONE, x.undo());
        due("1 tear", 0, x.tear());
        due("1 sheet", MISSING, x.played(3));
        due("1 states", 1, x.states());
        due("1 ends", 1, x.ends());
        due("1 status", 2, x.status(-1));
        ManyHands other = new ManyHands();
        x.feed(65, 1);
        due("1 another object", 0, other.look(6));
    }

    private static void feedAndWipe() {
        ManyHands x = new ManyHands();
        due("2 n 0", BEYOND, x.feed(1, 0));
        due("2 n 5", BEYOND, x.feed(1, 5));
        due("2 n low", BEYOND, x.feed(1, LOW));
        due("2 n high", BEYOND, x.feed(1, HIGH));
        due("2 none taken", 0, x.look(6));
        due("2 highest first", 4, x.feed(0x6B656570, 4));
        due("2 keep", 0, x.text());
        due("2 kind of keep", 0, x.step(0, 0, 0));
        due("2 the lowest alone", 3, x.feed(0x7F736574, 3));
        due("2 high bit", 4, x.feed(-1, 1));
        due("2 a byte is 255", -4, x.text());
        due("3 wipe", 4, x.wipe());
        due("3 wipe anew", 0, x.wipe());
        for (int i = 1; i <= 29; i++) {
            due("2 feed " + i, 4 * i, x.feed(0x20202020, 4));
        }
        due("2 119", 119, x.feed(0, 3));
        due("2 full by 2", FULL, x.feed(0, 2));
        due("2 n ahead of full", BEYOND, x.feed(0, 5));
        due("2 nothing came", 119, x.look(6));
        due("2 120", 120, x.feed(0, 1));
        due("2 full by 1", FULL, x.feed(0, 1));
        due("3 wipe all", 120, x.wipe());
        due("3 empty", 0, x.look(6));
        due("2 again", 1, x.feed(0, 1));
    }

    private static void fault(String text, int place) {
        ManyHands x = new ManyHands();
        due("4 fault of [" + text + "]", -1 - place, say(x, text));
        due("4 the tape stays [" + text + "]", text.length(), x.look(6));
        due("4 no call [" + text + "]", 0, x.look(0));
        due("4 no finding [" + text + "]", 0, x.status(-1));
    }

    private static void texts() {
        String[] good = {"read 2", "read0", "  read  0  ", "write 1", "put 2 3", "put0 3", "swap 0 1 2", "add 1 0",
            "fence", "set 3", "keep", "again 0", "set 0;again 1", "set 0;again 0", "read 00", "read 0002", "set 0000000003",
            repeat("keep", 7), "fence;again0"};
        for (String text : good) {
            ManyHands x = new ManyHands();
            due("4 [" + text + "]", 0, say(x, text));
            due("4 the tape is empty", 0, x.look(6));
            due("4 calls", 1, x.look(0));
        }
        fault("", 0);
        fault("   ", 3);
        fault("read", 4);
        fault("read ", 5);
        fault("read 3", 5);
        fault("read 12", 5);
        fault("read 4294967296", 5);
        fault("read 99999999999999999999", 5);
        fault("read a", 5);
        fault("read ;", 5);
        fault("reads 0", 0);
        fault("readread 0", 0);
        fault("rea", 0);
        fault(" Read 0", 1);
        fault("Read 0", 0);
        fault("0", 0);
        fault(";", 0);
        fault("keep;", 5);
        fault("keep; ", 6);
        fault("keep;;", 5);
        fault("keep keep", 5);
        fault("keep 0", 5);
        fault("put 00", 6);
        fault("put 0 4", 6);
        fault("put 3 4", 4);
        fault("put 0", 5);
        fault("swap 0 1", 8);
        fault("swap 0 1 4", 9);
        fault("swap 0 4 1", 7);
        fault("swap 3 0 1", 5);
        fault("add 0 4", 6);
        fault("set 4", 4);
        fault("set -1", 4);
        fault("again 1", 6);
        fault("keep;again 2", 11);
        fault("again", 5);
        fault("fence#", 5);
        fault("#", 0);
        fault("re#d 0", 0);
        fault("keep\t", 4);
        fault("keep\n;keep", 4);
        fault("keep" + (char) 233, 4);
        fault("keep" + (char) 0, 4);
        fault("nosuch #", 0);
        fault(repeat("keep", 8), 35);
        fault(repeat("keep", 7) + ";", 35);
        fault(repeat("keep", 7) + "; ", 36);
        fault(repeat("keep", 7) + ";nosuch", 35);
        fault(repeat("keep", 7) + " 1", 35);
        fault(repeat("keep", 7) + ";#", 35);
        ManyHands x = with("keep", "keep", "keep", "keep", "keep", "keep");
        due("4 full ahead of a fault", FULL, x.text());
        feed(x, "keep");
        due("4 full", FULL, x.text());
        due("4 the tape stays when full", 4, x.look(6));
        due("4 still 6", 6, x.look(0));
        ManyHands y = new ManyHands();
        due("4 a fault", -5, say(y, "set 4;keep"));
        y.wipe();
        due("4 a fault leaves nothing of it", 0, say(y, "write 0"));
        due("4 write has no value", -1, y.step(0, 0, 2));
    }

    private static final String ALL = "read 1;write 2;put 0 3;swap 1 2 3;add 2 1;fence;set 2";

    private static void stepsOfCalls() {
        ManyHands x = with(ALL, "keep;again 0;again 2");
        due("5 seven", 7, x.steps(0));
        due("5 three", 3, x.steps(1));
        due("5 none", BEYOND, x.steps(2));
        due("5 -1", BEYOND, x.steps(-1));
        due("5 low", BEYOND, x.steps(LOW));
        due("5 high", BEYOND, x.steps(HIGH));
        int[][] want = {
            {1, 1, KIND, KIND, KIND}, {2, 2, -1, KIND, KIND}, {2, 0, 3, KIND, KIND}, {3, 1, 2, 3, KIND},
            {4, 2, 1, KIND, KIND}, {5, KIND, KIND, KIND, KIND}, {7, KIND, 2, KIND, KIND}};
        for (int step = 0; step < 7; step++) {
            for (int what = 0; what < 5; what++) {
                due("6 step " + step + " what " + what, want[step][what], x.step(0, step, what));
            }
        }
        int[][] others = {{0, KIND, KIND, KIND, KIND}, {6, KIND, KIND, KIND, 0}, {6, KIND, KIND, KIND, 2}};
        for (int step = 0; step < 3; step++) {
            for (int what = 0; what < 5; what++) {
                due("6 call 1 step " + step + " what " + what, others[step][what], x.step(1, step, what));
            }
        }
        int[][] beyond = {{2, 0, 0}, {-1, 0, 0}, {0, 7, 0}, {0, -1, 0}, {1, 3, 0}, {0, 0, 5}, {0, 0, -1}, {LOW, 0, 0},
            {HIGH, 0, 0}, {0, LOW, 0}, {0, HIGH, 0}, {0, 0, LOW}, {0, 0, HIGH}};
        for (int[] b : beyond) {
            due("6 beyond " + b[0] + " " + b[1] + " " + b[2], BEYOND, x.step(b[0], b[1], b[2]));
        }
    }

    private static void asKinds() {
        ManyHands x = with(ALL, "keep;again 0");
        int[] kinds = {1, 2, 2, 3, 4, 5, 7, 0, 6};
        for (int i = 0; i < kinds.length; i++) {
            int call = i / 7;
            int step = i % 7;
            for (int kind = 0; kind < 8; kind++) {
                boolean is = kind == 0 || kind == kinds[i] || kind == 3 && kinds[i] == 4;
                due("7 step " + i + " as " + kind, is ? kinds[i] : KIND, x.as(call, step, kind));
            }
        }
        due("7 kind 8", BEYOND, x.as(0, 0, 8));
        due("7 kind -1", BEYOND, x.as(0, 0, -1));
        due("7 kind low", BEYOND, x.as(0, 0, LOW));
        due("7 no call", BEYOND, x.as(2, 0, 0));
        due("7 no step", BEYOND, x.as(1, 2, 0));
        due("7 step -1", BEYOND, x.as(1, -1, 0));
        due("7 call -1", BEYOND, x.as(-1, 0, 0));
    }

    private static void changes() {
        ManyHands x = with(ALL, "keep;again 0");
        int[] was = {KIND, KIND, 3, 3, 1, KIND, 2};
        for (int step = 0; step < 7; step++) {
            due("8 change " + step, was[step], x.change(0, step, 0));
            due("8 change back " + step, was[step] == KIND ? KIND : 0, x.change(0, step, 1));
        }
        due("8 swap's first stays", 2, x.step(0, 3, 2));
        due("8 swap's second", 1, x.step(0, 3, 3));
        due("8 put", 1, x.step(0, 2, 2));
        due("8 write stays", -1, x.step(0, 1, 2));
        due("8 keep", KIND, x.change(1, 0, 0));
        due("8 again", KIND, x.change(1, 1, 0));
        due("8 value 4", BEYOND, x.change(0, 2, 4));
        due("8 value -1", BEYOND, x.change(0, 2, -1));
        due("8 beyond ahead of kind", BEYOND, x.change(0, 0, 4));
        due("8 no call", BEYOND, x.change(2, 0, 0));
        due("8 no step", BEYOND, x.change(1, 2, 0));
        due("8 step -1", BEYOND, x.change(0, -1, 0));
        due("8 unchanged by findings", 1, x.step(0, 2, 2));
        ManyHands y = with("put 0 1");
        y.hand(0, -1);
        due("8 result", 1 * 64 * 4, y.result(0));
        y.change(0, 0, 2);
        due("8 a hand does what it became", 2 * 64 * 4, y.result(0));
    }

    private static void cellsMachineHands() {
        ManyHands x = with("keep", "fence");
        due("9 first", 0, x.cell(2, 3));
        due("9 was 3", 3, x.cell(2, 1));
        due("9 others", 0, x.look(3) + x.look(4));
        int[][] beyond = {{3, 0}, {-1, 0}, {0, 4}, {0, -1}, {LOW, 0}, {HIGH, 0}, {0, LOW}, {0, HIGH}};
        for (int[] b : beyond) {
            due("9 beyond " + b[0] + " " + b[1], BEYOND, x.cell(b[0], b[1]));
        }
        due("10 first", 0, x.machine(1));
        due("10 was 1", 1, x.machine(1));
        due("10 2", BEYOND, x.machine(2));
        due("10 -1", BEYOND, x.machine(-1));
        due("10 stays", 1, x.machine(0));
        due("11 no call", BEYOND, x.hand(2, -1));
        due("11 call -1", BEYOND, x.hand(-1, 0));
        due("11 no second", BEYOND, x.hand(0, 2));
        due("11 second -2", BEYOND, x.hand(0, -2));
        due("11 low", BEYOND, x.hand(0, LOW));
        due("11 none came", 0, x.look(1));
        due("11 one", 0, x.hand(0, -1));
        due("11 two", 1, x.hand(1, 1));
        due("11 three", 2, x.hand(0, 1));
        due("11 full", FULL, x.hand(0, -1));
        due("11 beyond ahead of full", BEYOND, x.hand(2, -1));
        due("12 three", 3, x.clear());
        due("12 none", 0, x.clear());
        due("12 calls stay", 2, x.look(0));
        due("11 anew", 0, x.hand(1, -1));
    }

    /** Each HAND writes in one CALL and reads in the next: only late writes make it BAD. */
    private static ManyHands storeBuffering() {
        ManyHands x = with("put 0 1", "read 1", "put 1 1", "read 0");
        x.hand(0, 1);
        x.hand(2, 3);
        return x;
    }

    private static void allTurns() {
        ManyHands x = storeBuffering();
        due("13 at once", 13, x.states());
        due("14 at once", 3, x.ends());
        due("16 orders", 3, x.orders());
        due("17 least", 5124, x.inOrder(0));
        due("17 second", 5184, x.inOrder(1));
        due("17 last", 5188, x.inOrder(2));
        due("17 none", NONE, x.inOrder(3));
        due("17 high", NONE, x.inOrder(HIGH));
        due("17 -1", BEYOND, x.inOrder(-1));
        due("18 at once", 0, x.bad());
        due("19 at once", NONE, x.worst());
        due("20 at once", NONE, x.turn(-1));
        due("20 at once, 0", NONE, x.turn(0));
        due("20 -2 at once", BEYOND, x.turn(-2));
        due("24 at once", 0, x.fences());
        x.machine(1);
        due("13 late", 34, x.states());
        due("14 late", 4, x.ends());
        due("15 least", 5120, x.result(0));
        due("15 last", 5188, x.result(3));
        due("15 none", NONE, x.result(4));
        due("15 high", NONE, x.result(HIGH));
        due("15 -1", BEYOND, x.result(-1));
        due("15 low", BEYOND, x.result(LOW));
        due("16 late", 3, x.orders());
        due("18 late", 1, x.bad());
        due("19 late", 5120, x.worst());
        int[] turn = {0, 0, 1, 1, 10, 11};
        due("20 length", 6, x.turn(-1));
        for (int i = 0; i < 6; i++) {
            due("20 move " + i, turn[i], x.turn(i));
        }
        due("20 behind the last", NONE, x.turn(6));
        due("20 high", NONE, x.turn(HIGH));
        due("20 -2", BEYOND, x.turn(-2));
        due("20 low", BEYOND, x.turn(LOW));
        due("21 late", 0, x.stuck());
        due("22 late", 0, x.round());
        due("24 both", 3, x.fences());
        due("24 nothing changed", 34, x.states());
        due("24 no step came", 1, x.steps(0));
        due("23 only a write that changes nothing", 1, x.heal(0, 0));
        due("23 value stays", 1, x.step(0, 0, 2));
        due("23 known anew", 1, x.bad());
        ManyHands none = new ManyHands();
        none.cell(0, 1);
        none.cell(2, 3);
        due("15 without hands", 19, none.result(0));
        due("17 without hands", 19, none.inOrder(0));
        due("18 without hands", 0, none.bad());
        due("21 without hands", 0, none.stuck());
        due("22 without hands", 0, none.round());
        due("24 without hands", 0, none.fences());
    }

    private static void stepsAlone() {
        String[] texts = {"set 3;keep;set 2", "put 1 2;read 1", "swap 0 1 3", "swap 0 2 3", "add 0 3", "add 0 2",
            "set 2;keep;write 2;set 0", "set 1;again 0;set 3", "fence", "add 0 1;add 0 1;keep;read 0",
            "read 1;again 0", "add 1 1;again 0;keep"};
        int[][] cellsAB = {{1, 0, 0, 2, 3}, {1, 2, 0, 2, 0}, {3, 0, 0, 1, 0}, {1, 0, 0, 0, 0}, {0, 0, 0, 1, 0}, {3, 0, 0, 1, 0},
            {1, 0, 2, 0, 2}, {1, 0, 0, 3, 0}, {1, 0, 0, 0, 0}, {3, 0, 0, 3, 2}, null, {1, 2, 0, 1, 1}};
        for (int m = 0; m <= 1; m++) {
            for (int i = 0; i < texts.length; i++) {
                ManyHands x = with(texts[i]);
                x.cell(0, 1);
                x.machine(m);
                x.hand(0, -1);
                int want = 0;
                for (int k = 0; cellsAB[i] != null && k < 5; k++) {
                    want = want * 4 + cellsAB[i][k];
                }
                due("result of [" + texts[i] + "] on " + m, cellsAB[i] == null ? NONE : want, x.result(0));
                due("in order of [" + texts[i] + "] on " + m, cellsAB[i] == null ? NONE : want, x.inOrder(0));
                due("nothing bad alone", 0, x.bad());
                due("stuck alone", cellsAB[i] == null ? x.states() : 0, x.stuck());
                due("round alone", cellsAB[i] == null ? 1 : 0, x.round());
            }
        }
    }

    private static void stuckAndRound() {
        ManyHands x = with("read 0;again 0", "put 0 1");
        x.hand(0, -1);
        x.hand(1, -1);
        due("13 a spin", 6, x.states());
        due("21 a spin may end", 0, x.stuck());
        due("22 a spin goes round", 1, x.round());
        due("16 the order that ends", 1, x.orders());
        due("14 a spin", 1, x.ends());
        due("18 a spin", 0, x.bad());
        ManyHands y = with("put 0 1", "swap 0 0 2;again 0");
        y.hand(0, -1);
        y.hand(1, -1);
        due("13 lost", 7, y.states());
        due("21 some are lost", 2, y.stuck());
        due("22 lost ones go round", 1, y.round());
        due("16 one order ends", 1, y.orders());
        ManyHands z = with("add 0 1;again 0");
        z.hand(0, 0);
        due("13 the second call is another state", 7, z.states());
        due("22 laps that are not alike", 0, z.round());
        due("21 laps that end", 0, z.stuck());
        due("17 laps", 3 * 4 * 4 * 16 + 2 * 4, z.inOrder(0));
    }

    private static void lateWrites() {
        ManyHands x = with("put 0 1;put 0 2;put 0 3;read 0;add 0 1", "swap 0 0 1", "fence;read 1;read 0");
        x.machine(1);
        x.hand(0, -1);
        x.hand(1, 2);
        tell(x, 0, 0, 0, 0);
        due("28 a third write waits", STATE, x.moves(0));
        due("26 two of three", 2, x.played(0));
        tell(x, 0, 0, 0);
        due("28 full of waiting", 2 | 8, x.moves(0));
        due("29 waiting", 2, x.after(0, 12));
        due("29 the cell is old", 0, x.after(0, 0));
        tell(x, 0, 0, 0, 10, 0, 0);
        due("29 sees its own latest", 3, x.after(0, 10));
        due("29 the oldest came", 1, x.after(0, 0));
        due("28 no add while one waits", 2 | 8, x.moves(0));
        tell(x, 0, 0, 0, 10, 0, 0, 10, 10);
        due("29 in order", 3, x.after(0, 0));
        due("28 add now", 1 | 2, x.moves(0));
        due("25 six and no other hand", 7, x.cost(0));
        tell(x, 0, 0, 1, 10, 1);
        due("25 swap then a write that comes", 1 + 1 + 5 + 1, x.cost(0));
        due("29 the other's call", 1, x.after(0, 24));
        due("29 the other's step", 1, x.after(0, 23));
        due("29 swap set A", 1, x.after(0, 20));
        tell(x, 0, 0, 10, 1, 1, 1, 1);
        due("29 all done", 2, x.after(0, 24));
        due("29 no step comes next", 0, x.after(0, 23));
        due("25 swap reads though it fails", 6 + 4, x.cost(0));
        ManyHands y = with("set 1;keep;write 0;set 2;keep;write 1;read 0");
        y.machine(1);
        y.hand(0, -1);
        tell(y, 0, 0, 0, 0, 0, 0, 0, 0);
        due("29 B as it was when written", 1, y.after(0, 10));
        due("29 B now", 2, y.after(0, 11));
    }

    private static void costs() {
        ManyHands x = with("read 0;put 0 1;add 0 1;swap 0 0 1;keep;set 1;fence", "read 0;read 1;put 0 2;read 0");
        x.hand(0, -1);
        x.hand(1, -1);
        tell(x, 0, 0, 1);
        due("25 reads of two hands", 6, x.cost(0));
        tell(x, 0, 0, 0, 0, 0, 0, 0, 0);
        due("25 one hand", 7, x.cost(0));
        tell(x, 0, 0, 1, 0, 1, 0);
        due("25 each cell by itself", 5 + 4 + 4, x.cost(0));
        tell(x, 0, 0, 1, 0, 1, 1);
        due("25 put at once", 5 + 4 + 4 + 4, x.cost(0));
        due("27 no end", 2, x.judge(0));
        x.machine(1);
        tell(x, 0, 1, 1, 1, 0, 1, 0, 11, 10);
        due("25 late: a write when it comes, no read of a waiting one", 8 + 4 + 4 + 4, x.cost(0));
        x.sheet(0, 8, 0);
        due("25 nothing", 0, x.cost(0));
        due("26 nothing", 0, x.played(0));
        due("27 nothing", 2, x.judge(0));
    }

    private static void toldTurns() {
        ManyHands x = storeBuffering();
        x.machine(1);
        int[] wrongSheets = {-1, 4, LOW, HIGH};
        for (int s : wrongSheets) {
            due("25 no sheet " + s, BEYOND, x.cost(s));
            due("26 no sheet " + s, BEYOND, x.played(s));
            due("27 no sheet " + s, BEYOND, x.judge(s));
            due("28 no sheet " + s, BEYOND, x.moves(s));
            due("29 no sheet " + s, BEYOND, x.after(s, 0));
            due("33 no sheet " + s, BEYOND, x.lead(s));
        }
        due("25 missing", MISSING, x.cost(1));
        due("26 missing", MISSING, x.played(1));
        due("27 missing", MISSING, x.judge(1));
        due("28 missing", MISSING, x.moves(1));
        due("29 missing", MISSING, x.after(1, 0));
        due("29 beyond ahead of missing", BEYOND, x.after(1, 3));
        due("33 lead", 6, x.lead(1));
        due("27 bad", 1, x.judge(1));
        due("25 lead", 14, x.cost(1));
        due("28 at the end", 0, x.moves(1));
        tell(x, 0, 0, 10, 0, 1, 11, 1);
        due("27 good", 0, x.judge(0));
        tell(x, 0, 0, 10, 0, 1, 1);
        due("27 a write waits still", 2, x.judge(0));
        tell(x, 0, 0, 10, 0, 1, 11, 1, 0);
        due("27 one too many", STATE, x.judge(0));
        due("25 one too many", STATE, x.cost(0));
        due("28 one too many", STATE, x.moves(0));
        due("29 one too many", STATE, x.after(0, 0));
        due("29 beyond ahead of state", BEYOND, x.after(0, 5));
        due("26 six of seven", 6, x.played(0));
        int[] noMoves = {2, 3, 9, 12, 13, 255, 20};
        for (int move : noMoves) {
            tell(x, 0, 0, move);
            due("26 no move " + move, 1, x.played(0));
        }
        x.sheet(0, 64, 1);
        long[] large = {1L << 32, 1L << 40 | 1, -1L, Long.MIN_VALUE, Long.MAX_VALUE, -4294967296L};
        for (long move : large) {
            x.write(0, 0, move);
            due("26 no move of 64 bits " + move, 0, x.played(0));
        }
        x.sheet(0, 16, 1);
        x.write(0, 0, 65536 + 1);
        due("26 the lowest 16 bits are", 1, x.played(0));
        x.sheet(0, 8, 0);
        int[] wrongWhats = {-1, 3, 9, 15, 19, 25, 30, 34, 40, 100, LOW, HIGH};
        for (int what : wrongWhats) {
            due("29 what " + what, BEYOND, x.after(0, what));
        }
        for (int what = 10; what < 25; what += what == 14 ? 6 : 1) {
            due("29 at first " + what, 0, x.after(0, what));
        }
        due("28 at first", 3, x.moves(0));
    }

    private static void sheets() {
        ManyHands x = new ManyHands();
        int[] wrongSheets = {-1, 4, LOW, HIGH};
        for (int s : wrongSheets) {
            due("30 no sheet " + s, BEYOND, x.sheet(s, 8, 1));
            due("30 no sheet ahead of size " + s, BEYOND, x.sheet(s, 8, -1));
            due("31 no sheet " + s, BEYOND, x.write(s, 0, 1L));
            due("32 no sheet " + s, BEYOND, x.copy(s, 0, 0, 0, 0));
            due("32 no other sheet " + s, BEYOND, x.copy(0, 0, s, 0, 0));
        }
        int[] wrongBits = {-1, 1, 7, 9, 32, 128, LOW, HIGH};
        for (int bits : wrongBits) {
            due("30 bits " + bits, BEYOND, x.sheet(0, bits, 1));
        }
        due("30 bits ahead of size", BEYOND, x.sheet(0, 32, -1));
        due("30 below 0", SIZE, x.sheet(0, 8, -1));
        due("30 low", SIZE, x.sheet(0, 64, LOW));
        due("30 below 0 with bits 0", SIZE, x.sheet(0, 0, -1));
        due("30 above 40", BEYOND, x.sheet(0, 8, 41));
        due("30 high", BEYOND, x.sheet(0, 16, HIGH));
        due("30 above 40 with bits 0", BEYOND, x.sheet(0, 0, 41));
        due("30 40", 40, x.sheet(0, 16, 40));
        due("31 last", 0, x.write(0, 39, 7L));
        due("31 was", 7, x.write(0, 39, 8L));
        due("31 40", BEYOND, x.write(0, 40, 8L));
        due("31 -1", BEYOND, x.write(0, -1, 8L));
        due("31 high", BEYOND, x.write(0, HIGH, 8L));
        due("30 a finding changes nothing", BEYOND, x.sheet(0, 8, 50));
        due("31 still there", 8, x.write(0, 39, 9L));
        due("30 anew", 40, x.sheet(0, 16, 40));
        due("31 all 0", 0, x.write(0, 39, 9L));
        due("30 none", 0, x.sheet(0, 8, 0));
        due("31 none", BEYOND, x.write(0, 0, 1L));
        due("30 missing", 0, x.sheet(0, 0, 5));
        due("31 missing", MISSING, x.write(0, 0, 1L));
        due("31 missing ahead of beyond", MISSING, x.write(0, 99, 1L));
        x.sheet(0, 8, 1);
        x.write(0, 0, 0x1234L);
        due("31 8 bits", 0x34, x.write(0, 0, 200L));
        due("31 8 bits have a sign", -56, x.write(0, 0, -1L));
        due("31 -1 in 8 bits", -1, x.write(0, 0, 0L));
        x.sheet(0, 16, 1);
        x.write(0, 0, 0x12345L);
        due("31 16 bits", 0x2345, x.write(0, 0, 40000L));
        due("31 16 bits have a sign", 40000 - 65536, x.write(0, 0, 0L));
        x.sheet(0, 64, 1);
        x.write(0, 0, Long.MIN_VALUE + 1);
        due("31 64 bits", Long.MIN_VALUE + 1, x.write(0, 0, -1000000001L));
        due("31 a number like a finding", -1000000001L, x.write(0, 0, 0L));
    }

    private static void copies() {
        ManyHands x = new ManyHands();
        x.sheet(0, 8, 5);
        for (int i = 0; i < 5; i++) {
            x.write(0, i, i + 1L);
        }
        x.sheet(1, 8, 3);
        x.sheet(2, 16, 5);
        due("32 missing", MISSING, x.copy(0, 0, 3, 0, 1));
        due("32 missing source", MISSING, x.copy(3, 0, 0, 0, 1));
        due("32 missing ahead of beyond", MISSING, x.copy(3, -1, 2, 0, 1));
        due("32 kind", KIND, x.copy(0, 0, 2, 0, 1));
        due("32 kind ahead of beyond", KIND, x.copy(0, -1, 2, 0, 1));
        due("32 kind of none", KIND, x.copy(0, 0, 2, 0, 0));
        int[][] beyond = {{-1, 0, 1}, {0, -1, 1}, {0, 0, -1}, {0, 0, 4}, {3, 0, 3}, {0, 1, 3}, {6, 0, 0}, {0, 4, 0},
            {HIGH, 0, 1}, {1, 0, HIGH}, {1, HIGH, 1}, {HIGH, HIGH, HIGH}, {LOW, LOW, LOW}, {0, 0, LOW}};
        for (int[] b : beyond) {
            due("32 beyond " + b[0] + " " + b[1] + " " + b[2], BEYOND, x.copy(0, b[0], 1, b[1], b[2]));
        }
        due("32 nothing at both ends", 0, x.copy(0, 5, 1, 3, 0));
        due("32 two", 2, x.copy(0, 3, 1, 1, 2));
        due("32 first stays", 0, x.write(1, 0, 0L));
        due("32 came", 4, x.write(1, 1, 0L));
        due("32 came too", 5, x.write(1, 2, 0L));
        due("32 onto itself", 4, x.copy(0, 0, 0, 1, 4));
        int[] onward = {1, 1, 2, 3, 4};
        for (int i = 0; i < 5; i++) {
            due("32 as they all were " + i, onward[i], x.write(0, i, i + 1L));
        }
        due("32 back onto itself", 4, x.copy(0, 1, 0, 0, 4));
        int[] back = {2, 3, 4, 5, 5};
        for (int i = 0; i < 5; i++) {
            due("32 as they all were, back " + i, back[i], x.write(0, i, 0L));
        }
    }

    private static ManyHands longTurn(String fences) {
        ManyHands x = with(repeat("fence", 5) + ";add 2 1;again 0", "put 0 1;" + repeat("fence", 5) + ";read 1",
            repeat("fence", 7), "put 1 1;" + repeat("fence", 5) + ";read 0", fences);
        x.hand(0, 1);
        x.hand(2, 3);
        x.hand(4, -1);
        return x;
    }

    private static void leads() {
        ManyHands x = storeBuffering();
        due("33 none", NONE, x.lead(0));
        due("33 none made no sheet", MISSING, x.played(0));
        x.machine(1);
        x.sheet(0, 64, 40);
        due("33 six", 6, x.lead(0));
        int[] turn = {0, 0, 1, 1, 10, 11};
        for (int i = 0; i < 6; i++) {
            due("33 move " + i, turn[i], x.write(0, i, 255L));
        }
        due("33 no more", BEYOND, x.write(0, 6, 0L));
        due("33 of 8 bits", -1, x.write(0, 0, 0L));
        ManyHands forty = longTurn(repeat("fence", 5));
        due("20 forty", 40, forty.turn(-1));
        due("33 forty", 40, forty.lead(3));
        due("27 forty", 1, forty.judge(3));
        ManyHands more = longTurn(repeat("fence", 6));
        due("20 forty-one", 41, more.turn(-1));
        due("33 full", FULL, more.lead(3));
        due("33 full made no sheet", MISSING, more.played(3));
    }

    private static void tooManyStates() {
        ManyHands x = with("keep;keep;write 0;add 0 1;read 1;put 2 0;add 0 1", "write 2;set 0;add 0 3;set 0;read 1;keep",
            "write 1;put 0 1;keep;put 1 3;put 1 2;set 2;write 2");
        x.machine(1);
        for (int h = 0; h < 3; h++) {
            x.hand(h, -1);
        }
        due("13 6000 are fine", 6000, x.states());
        due("18 of 6000", 13, x.bad());
        due("20 of 6000", 28, x.turn(-1));
        due("24 a fence is one too many", SIZE, x.fences());
        due("23 too many for another value", SIZE, x.heal(0, 3));
        due("23 its own stays", 1, x.step(0, 3, 2));
        due("23 nothing heals it", 0, x.heal(1, 1));
        due("13 still 6000", 6000, x.states());
        ManyHands y = with("keep;swap 1 1 2;add 2 1;write 0;add 1 2;read 0;again 3", "add 2 1;keep;swap 1 1 3;read 0;add 1 3",
            "set 3;fence;fence;read 1;put 0 2;put 1 0;add 0 1");
        y.machine(1);
        for (int h = 0; h < 3; h++) {
            y.hand(h, -1);
        }
        due("13 6001 are not", SIZE, y.states());
        due("14 size", SIZE, y.ends());
        due("15 size", SIZE, y.result(0));
        due("15 beyond ahead of size", BEYOND, y.result(-1));
        due("18 size", SIZE, y.bad());
        due("19 size", SIZE, y.worst());
        due("20 size", SIZE, y.turn(0));
        due("20 beyond ahead of size", BEYOND, y.turn(-2));
        due("21 size", SIZE, y.stuck());
        due("22 size", SIZE, y.round());
        due("23 size", SIZE, y.heal(2, 0));
        due("23 kind ahead of size", KIND, y.heal(0, 0));
        due("23 beyond ahead of size", BEYOND, y.heal(3, 0));
        due("24 size", SIZE, y.fences());
        due("33 size", SIZE, y.lead(0));
        due("33 size made no sheet", MISSING, y.played(0));
        due("16 orders have no size", 0, y.orders());
        due("17 nor has inOrder", NONE, y.inOrder(0));
        y.sheet(0, 8, 0);
        due("27 nor has judge", 2, y.judge(0));
        due("38 sizes", 11, y.status(6));
        y.clear();
        due("13 fewer hands", 1, y.states());
    }

    private static void heals() {
        ManyHands x = with("swap 0 0 1;again 0;read 1;keep;add 1 1;put 0 0", "put 2 1");
        x.hand(0, -1);
        x.hand(0, -1);
        due("23 a lock that holds", 0, x.bad());
        due("23 only a lock that shuts", 2 | 4 | 8, x.heal(0, 0));
        due("23 it opens by 0 alone, else nobody ends", 15, x.heal(0, 5));
        due("23 of a call that no hand does", 15, x.heal(1, 0));
        due("23 no value", KIND, x.heal(0, 1));
        due("23 read", KIND, x.heal(0, 2));
        due("23 keep", KIND, x.heal(0, 3));
        due("23 no step", BEYOND, x.heal(0, 6));
        due("23 no call", BEYOND, x.heal(2, 0));
        due("23 -1", BEYOND, x.heal(-1, -1));
        x.change(0, 0, 0);
        due("23 not shut: bad", 2, x.bad());
        due("23 a call that no hand does heals nothing", 0, x.heal(1, 0));
        due("23 how it heals", 14, x.heal(0, 0));
        due("23 it stays what it was", 0, x.step(0, 0, 3));
    }

    private static void fewestFences() {
        ManyHands x = storeBuffering();
        x.machine(1);
        due("24 both", 3, x.fences());
        // Calls that no HAND does aren't counted.
        ManyHands z = with("put 2 1;put 0 1;fence", "put 0 1", "read 1", "put 1 1", "read 0");
        z.machine(1);
        z.hand(1, 2);
        z.hand(3, 4);
        due("24 the writes of hands alone", 3, z.fences());
        // A FENCE behind either WRITE brings the first one out: of like sets the least.
        ManyHands like = with("put 0 1;put 2 1", "read 1", "put 1 1;fence", "read 0");
        like.machine(1);
        like.hand(0, 1);
        like.hand(2, 3);
        due("24 bad without", 1, like.bad());
        due("24 the least of like ones", 1, like.fences());
        // Here a FENCE behind the first one leaves the second one WAITING.
        ManyHands later = with("put 2 1;put 0 1", "read 1", "put 1 1;fence", "read 0");
        later.machine(1);
        later.hand(0, 1);
        later.hand(2, 3);
        due("24 the later one", 2, later.fences());
        // The seventh WRITE is the one that needs it.
        ManyHands seventh = with(repeat("put 2 1", 6) + ";put 0 1", "read 1", "put 1 1;fence", "read 0");
        seventh.machine(1);
        seventh.hand(0, 1);
        seventh.hand(2, 3);
        due("24 a seventh is out of reach", NONE, seventh.fences());
        // Alone neither ever ends, so that no FENCE makes their END a GOOD one.
        ManyHands again = with("put 0 1;read 1;again 1", "put 1 1;read 0;again 1");
        again.machine(1);
        again.hand(0, -1);
        again.hand(1, -1);
        due("24 a spin each", NONE, again.fences());
        // Seven WRITES, twice: with FENCES behind six of them a HAND has 26 STEPS.
        ManyHands many = with(repeat("put 0 1", 7), "read 0;keep;read 0");
        many.machine(1);
        many.hand(0, 0);
        many.hand(1, -1);
        due("24 the first six alone", NONE, many.fences());
        ManyHands once = storeBuffering();
        due("24 at once nothing is bad", 0, once.fences());
    }

    private static void images() {
        ManyHands x = with("put 0 1", "swap 1 0 2");
        x.hand(0, 1);
        x.cell(2, 3);
        x.machine(1);
        due("34 image", 1, x.image());
        int states = x.states();
        x.change(0, 0, 3);
        x.change(1, 0, 1);
        x.hand(1, -1);
        x.cell(2, 0);
        x.machine(0);
        due("34 another call", 2, say(x, "keep"));
        x.feed(65, 1);
        x.sheet(0, 8, 2);
        due("35 undo", 2, x.undo());
        due("35 calls", 2, x.look(0));
        due("35 hands", 1, x.look(1));
        due("35 machine", 1, x.look(2));
        due("35 cell", 3, x.look(5));
        due("35 put", 1, x.step(0, 0, 2));
        due("35 swap", 2, x.step(1, 0, 3));
        due("35 no third call", BEYOND, x.steps(2));
        due("35 the tape isn't kept", 1, x.look(6));
        due("35 sheet 0 is there", 0, x.write(0, 1, 0L));
        due("35 known anew", states, x.states());
        x.clear();
        due("35 it stays kept", 2, x.undo());
        due("35 hands again", 1, x.look(1));
        x.wipe();
        x.change(0, 0, 2);
        due("34 latest", 1, x.image());
        x.change(0, 0, 0);
        x.undo();
        due("35 the latest one", 2, x.step(0, 0, 2));
        due("36 tear", 1, x.tear());
        due("36 tear anew", 0, x.tear());
        due("35 nothing is kept", NONE, x.undo());
        due("35 a finding changes nothing", 2, x.look(0));
        ManyHands y = new ManyHands();
        y.image();
        say(y, "keep");
        due("35 none", 0, y.undo());
        due("35 a new one takes its place", 0, say(y, "set 1"));
        due("35 its kind", 7, y.step(0, 0, 0));
    }

    private static void looks() {
        ManyHands x = with("keep");
        x.hand(0, -1);
        x.hand(0, 0);
        x.cell(0, 1);
        x.cell(1, 2);
        x.cell(2, 3);
        x.machine(1);
        x.feed(0, 3);
        int[] want = {1, 2, 1, 1, 2, 3, 3};
        for (int what = 0; what < 7; what++) {
            due("37 look " + what, want[what], x.look(what));
        }
        int[] beyond = {-1, 7, LOW, HIGH};
        for (int what : beyond) {
            due("37 look " + what, BEYOND, x.look(what));
        }
    }

    private static void statuses() {
        ManyHands x = new ManyHands();
        for (int which = -1; which <= 6; which++) {
            due("38 at first " + which, 0, x.status(which));
        }
        x.image();
        x.look(7);
        x.feed(0, 0);
        for (int i = 0; i < 31; i++) {
            x.feed(0x6B656570, 4);
        }
        x.wipe();
        say(x, "keep");
        x.change(0, 0, 0);
        x.worst();
        x.sheet(0, 8, 1);
        x.write(0, 0, 9L);
        x.cost(0);
        x.judge(1);
        x.write(2, 0, 0L);
        x.sheet(0, 8, -1);
        say(x, "nosuch");
        int[] want = {2, 1, 1, 1, 1, 2, 1};
        for (int which = 0; which < 7; which++) {
            due("38 " + which, want[which], x.status(which));
        }
        due("38 all", 9, x.status(-1));
        due("38 undo", 0, x.undo());
        due("38 undo takes none back", 9, x.status(-1));
        due("38 7", BEYOND, x.status(7));
        due("38 counted from then on", 10, x.status(-1));
        due("38 as beyond", 3, x.status(0));
        due("38 -2", BEYOND, x.status(-2));
        due("38 low", BEYOND, x.status(LOW));
        due("38 high", BEYOND, x.status(HIGH));
        due("38 beyond", 6, x.status(0));
    }

    public static void main(String[] args) {
        newObject();
        feedAndWipe();
        texts();
        stepsOfCalls();
        asKinds();
        changes();
        cellsMachineHands();
        allTurns();
        stepsAlone();
        stuckAndRound();
        lateWrites();
        costs();
        toldTurns();
        sheets();
        copies();
        leads();
        tooManyStates();
        heals();
        fewestFences();
        images();
        looks();
        statuses();
        System.out.println(asked + " answers asked, " + wrong + " are not as due");
        if (wrong != 0) System.exit(1);
    }
}
