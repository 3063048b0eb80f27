/** The edges of part 5, sheets and parts: promises 20 to 30. Each test stands for a sentence of the document. */
public final class SheetsEdgesTest {
    private static final Check check = Check.byTheDocument();
    private static final int LEAST = Integer.MIN_VALUE, MOST = Integer.MAX_VALUE;
    private static final int[] NO_SHEETS = {-1, 4, LEAST, MOST};
    private static final int[] NO_LANES = {-1, 3, LEAST, MOST};

    public static void main(String[] args) {
        check.runAll(SheetsEdgesTest.class);
        check.end();
    }

    // ---- promise 20

    static void rowsOfNoneToSixty() {
        check.says("or a row of 0 .. 60 numbers (0 at first) of a LANE: 0 bytes, 1 shorts, 2 ints");
        for (int k = 0; k < 4; k++) {
            for (int lane = 0; lane < 3; lane++) {
                for (int n : new int[] {0, 1, 59, 60}) {
                    TurnQueue x = new TurnQueue();
                    check.due(x, "sheet(" + k + ", " + lane + ", " + n + ")", x.sheet(k, lane, n), 1, 0);
                    for (int i = 0; i < n; i++) check.due("cell " + i, x.cell(k, i, lane), 0);
                    check.due(x, "cell " + n, x.cell(k, n, lane), TurnQueue.LOST, 3);
                    check.due("lose(" + k + ")", x.lose(k), 1);
                }
            }
        }
    }

    static void aRowOfNoneIsNoNothing() {
        check.says("1 NULL (there is nothing)");
        TurnQueue x = new TurnQueue();
        check.due(x, "nothing", x.put(0, 0, 1), -11, 1);
        x.sheet(0, 0, 0);
        check.due(x, "a row of none", x.put(0, 0, 1), -13, 3);
        check.due(x, "none of it", x.copy(0, 0, 0, 0, 0), 0, 0);
        check.due("lose(0)", x.lose(0), 1);
        check.due(x, "nothing again", x.put(0, 0, 1), -11, 1);
    }

    static void sheetRefused() {
        check.says("A SHEET gets a new row: 1. UNKNOWN; OUTSIDE: lane, n above 60; SIZE.");
        TurnQueue x = new TurnQueue();
        for (int k : NO_SHEETS) {
            check.due(x, "sheet(" + k + ", 0, 0)", x.sheet(k, 0, 0), TurnQueue.UNKNOWN, 0);
            check.due(x, "sheet(" + k + ", 3, 61)", x.sheet(k, 3, 61), TurnQueue.UNKNOWN, 0);
            check.due(x, "sheet(" + k + ", 0, -1)", x.sheet(k, 0, -1), TurnQueue.UNKNOWN, 0);
        }
        for (int lane : NO_LANES) {
            check.due(x, "sheet(0, " + lane + ", 0)", x.sheet(0, lane, 0), TurnQueue.OUTSIDE, 0);
            check.due(x, "sheet(0, " + lane + ", -1)", x.sheet(0, lane, -1), TurnQueue.OUTSIDE, 0);
        }
        for (int n : new int[] {61, 62, MOST}) check.due(x, "sheet(0, 2, " + n + ")", x.sheet(0, 2, n), TurnQueue.OUTSIDE, 0);
        for (int k = 0; k < 4; k++) check.due("still nothing", x.lose(k), 0);
    }

    static void aLengthBelowNothing() {
        check.says("4 SIZE (a length below 0)");
        TurnQueue x = new TurnQueue();
        for (int n : new int[] {-1, -2, LEAST}) {
            for (int lane = 0; lane < 3; lane++) check.due(x, "sheet(0, " + lane + ", " + n + ")", x.sheet(0, lane, n), -14, 4);
        }
        check.due("still nothing", x.lose(0), 0);
        check.due(x, "n 0 is no SIZE", x.sheet(0, 0, 0), 1, 0);
    }

    static void aRefusedSheetKeepsItsRow() {
        check.says("They change nothing (but fault(), of a call that names FAULTS).");
        TurnQueue x = new TurnQueue();
        x.sheet(0, 1, 2);
        x.put(0, 1, 77);
        x.sheet(0, 0, 61);
        x.sheet(0, 3, 1);
        x.sheet(0, 0, -1);
        check.due("its cell", x.cell(0, 1, 1), 77);
        check.due(x, "its length", x.cell(0, 2, 1), TurnQueue.LOST, 3);
    }

    static void aNewRowIsOfNaughts() {
        check.says("a row of 0 .. 60 numbers (0 at first)");
        TurnQueue x = new TurnQueue();
        x.sheet(0, 2, 60);
        for (int i = 0; i < 60; i++) x.put(0, i, i + 1);
        x.sheet(0, 2, 5);
        check.due(x, "cell 5", x.cell(0, 5, 2), TurnQueue.LOST, 3);
        x.sheet(0, 2, 60);
        for (int i = 0; i < 60; i++) check.due("cell " + i, x.cell(0, i, 2), 0);
        x.put(0, 59, 5);
        check.due("lose(0)", x.lose(0), 1);
        x.sheet(0, 0, 60);
        check.due("cell 59", x.cell(0, 59, 0), 0);
    }

    static void sheetsAreApart() {
        check.says("A SHEET gets a new row: 1.");
        TurnQueue x = new TurnQueue();
        for (int k = 0; k < 4; k++) {
            x.sheet(k, 2, 60);
            for (int i : new int[] {0, 59}) x.put(k, i, 10 * k + i);
        }
        x.sheet(1, 2, 60);
        x.lose(2);
        for (int i : new int[] {0, 59}) {
            check.due("sheet 0", x.cell(0, i, 2), i);
            check.due("sheet 1", x.cell(1, i, 2), 0);
            check.due("sheet 2", x.cell(2, i, 2), TurnQueue.LOST);
            check.due("sheet 3", x.cell(3, i, 2), 30 + i);
        }
    }

    // ---- promise 21

    static void loseAtItsEdges() {
        check.says("A SHEET has nothing: 1; 0: it had nothing. UNKNOWN.");
        TurnQueue x = new TurnQueue();
        for (int k : NO_SHEETS) check.due("lose(" + k + ")", x.lose(k), TurnQueue.UNKNOWN);
        for (int k = 0; k < 4; k++) {
            check.due("lose(" + k + ") of nothing", x.lose(k), 0);
            x.sheet(k, 0, 3);
            check.due("lose(" + k + ")", x.lose(k), 1);
            check.due("lose(" + k + ") again", x.lose(k), 0);
            check.due(x, "nothing", x.cell(k, 0, 0), TurnQueue.LOST, 1);
        }
    }

    // ---- promise 22

    static void putAtItsEdges() {
        check.says("Cell i of a SHEET becomes v: 1. UNKNOWN; NULL; INDEX.");
        TurnQueue x = new TurnQueue();
        for (int k : NO_SHEETS) check.due(x, "put(" + k + ", -1, 0)", x.put(k, -1, 0), TurnQueue.UNKNOWN, 0);
        for (int i : new int[] {-1, 0, LEAST, MOST}) check.due(x, "put(0, " + i + ", 0) of nothing", x.put(0, i, 0), -11, 1);
        for (int n : new int[] {1, 7, 60}) {
            x.sheet(0, 2, n);
            check.due(x, "the first of " + n, x.put(0, 0, 5), 1, 0);
            check.due(x, "the last of " + n, x.put(0, n - 1, 6), 1, 0);
            for (int i : new int[] {-1, n, n + 1, 60, 61, LEAST, MOST}) check.due(x, "put(0, " + i + ", 9) of " + n, x.put(0, i, 9), -13, 3);
            check.due("the last of " + n, x.cell(0, n - 1, 2), 6);
        }
    }

    static void cutToBytes() {
        check.says("what comes to a cell of it is cut to its LANE");
        int[][] cut = {{0, 0}, {127, 127}, {128, -128}, {129, -127}, {255, -1}, {256, 0}, {300, 44}, {-1, -1}, {-128, -128},
                {-129, 127}, {-256, 0}, {32767, -1}, {70001, 113}, {MOST, -1}, {LEAST, 0}};
        cutTo(0, cut);
    }

    static void cutToShorts() {
        check.says("what comes to a cell of it is cut to its LANE");
        int[][] cut = {{0, 0}, {128, 128}, {-129, -129}, {32767, 32767}, {32768, -32768}, {32769, -32767}, {65535, -1}, {65536, 0},
                {-32768, -32768}, {-32769, 32767}, {70001, 4465}, {MOST, -1}, {LEAST, 0}};
        cutTo(1, cut);
    }

    static void intsAreNotCut() {
        check.says("what comes to a cell of it is cut to its LANE");
        int[][] cut = {{0, 0}, {128, 128}, {32768, 32768}, {65536, 65536}, {70001, 70001}, {-1, -1}, {MOST, MOST}, {LEAST, LEAST}};
        cutTo(2, cut);
    }

    private static void cutTo(int lane, int[][] cut) {
        TurnQueue x = new TurnQueue();
        x.sheet(3, lane, 60);
        for (int[] one : cut) {
            check.due("put(3, 59, " + one[0] + ")", x.put(3, 59, one[0]), 1);
            check.due("cut to lane " + lane, x.cell(3, 59, lane), one[1]);
            check.due("the cell ahead", x.cell(3, 58, lane), 0);
        }
    }

    // ---- promise 23

    static void cellAtItsEdges() {
        check.says("Cell i of what a SHEET has, taken as a row of a LANE. LOST: UNKNOWN, OUTSIDE: lane; FAULTS CAST (nothing is no CAST), NULL, INDEX.");
        TurnQueue x = new TurnQueue();
        for (int k : NO_SHEETS) check.due(x, "cell(" + k + ", 0, 3)", x.cell(k, 0, 3), TurnQueue.LOST, 0);
        for (int lane : NO_LANES) check.due(x, "cell(0, 0, " + lane + ")", x.cell(0, 0, lane), TurnQueue.LOST, 0);
        for (int lane = 0; lane < 3; lane++) check.due(x, "nothing is no CAST", x.cell(0, -1, lane), TurnQueue.LOST, 1);
        for (int has = 0; has < 3; has++) {
            x.sheet(0, has, 2);
            x.put(0, 1, 9);
            for (int lane = 0; lane < 3; lane++) {
                int fault = has == lane ? 3 : 2;
                for (int i : new int[] {-1, 2, LEAST, MOST}) check.due(x, "cell(0, " + i + ", " + lane + ")", x.cell(0, i, lane), TurnQueue.LOST, fault);
                check.due(x, "cell(0, 1, " + lane + ")", x.cell(0, 1, lane), has == lane ? 9 : TurnQueue.LOST, has == lane ? 0 : 2);
            }
            for (int lane : NO_LANES) check.due(x, "cell(0, 5, " + lane + ")", x.cell(0, 5, lane), TurnQueue.LOST, 0);
        }
    }

    static void castOfEmptyRows() {
        check.says("2 CAST (it is of another LANE, kind)");
        TurnQueue x = Check.with("d0;p001");
        x.sheet(1, 1, 0);
        check.due(x, "cell of a row of none", x.cell(1, 0, 0), TurnQueue.LOST, 2);
        check.due(x, "day of a row of none", x.day(1, 2, 0, 0), -12, 2);
        check.due(x, "copy of a row of none", x.copy(1, 0, 0, 0, 0), -12, 2);
        check.due(x, "another kind", x.as(0, 1), -12, 2);
    }

    // ---- promise 24

    private static TurnQueue numbered(int lane, int n) {
        TurnQueue x = new TurnQueue();
        x.sheet(0, lane, n);
        for (int i = 0; i < n; i++) x.put(0, i, i + 1);
        return x;
    }

    private static void row(TurnQueue x, int k, int lane, int... want) {
        for (int i = 0; i < want.length; i++) check.due("cell(" + k + ", " + i + ")", x.cell(k, i, lane), want[i]);
        check.due("no more cells", x.cell(k, want.length, lane), TurnQueue.LOST);
    }

    static void copyTheSameSheet() {
        check.says("n cells of a SHEET from i on go to another one (perhaps the same) from j on, as they were: n.");
        TurnQueue later = numbered(0, 5);
        check.due(later, "one later", later.copy(0, 0, 0, 1, 4), 4, 0);
        row(later, 0, 0, 1, 1, 2, 3, 4);
        TurnQueue ahead = numbered(1, 5);
        check.due(ahead, "one ahead", ahead.copy(0, 1, 0, 0, 4), 4, 0);
        row(ahead, 0, 1, 2, 3, 4, 5, 5);
        TurnQueue itself = numbered(2, 5);
        check.due(itself, "on itself", itself.copy(0, 0, 0, 0, 5), 5, 0);
        row(itself, 0, 2, 1, 2, 3, 4, 5);
        TurnQueue one = numbered(2, 5);
        check.due(one, "the first to the last", one.copy(0, 0, 0, 4, 1), 1, 0);
        row(one, 0, 2, 1, 2, 3, 4, 1);
        TurnQueue most = numbered(2, 60);
        check.due(most, "59 one later", most.copy(0, 0, 0, 1, 59), 59, 0);
        for (int i = 0; i < 60; i++) check.due("cell " + i, most.cell(0, i, 2), i == 0 ? 1 : i);
    }

    static void copyToAnother() {
        check.says("n cells of a SHEET from i on go to another one (perhaps the same) from j on, as they were: n.");
        TurnQueue x = numbered(2, 3);
        x.put(0, 2, 70001);
        x.sheet(3, 2, 4);
        check.due(x, "the last two to the last two", x.copy(0, 1, 3, 2, 2), 2, 0);
        row(x, 3, 2, 0, 0, 2, 70001);
        row(x, 0, 2, 1, 2, 70001);
        TurnQueue all = numbered(1, 60);
        all.sheet(1, 1, 60);
        check.due(all, "all sixty", all.copy(0, 0, 1, 0, 60), 60, 0);
        for (int i = 0; i < 60; i++) check.due("cell " + i, all.cell(1, i, 1), i + 1);
    }

    static void copyNoneAtTheVeryEnd() {
        check.says("3 INDEX (of cells from i on also where i is not 0 .. how many there are, if none of them is taken, too");
        TurnQueue x = numbered(0, 5);
        x.sheet(1, 0, 3);
        check.due(x, "both ends", x.copy(0, 5, 1, 3, 0), 0, 0);
        check.due(x, "the first's end", x.copy(0, 5, 1, 0, 0), 0, 0);
        check.due(x, "the other's end", x.copy(0, 0, 1, 3, 0), 0, 0);
        check.due(x, "behind the first's end", x.copy(0, 6, 1, 0, 0), -13, 3);
        check.due(x, "behind the other's end", x.copy(0, 0, 1, 4, 0), -13, 3);
        check.due(x, "ahead of the first", x.copy(0, -1, 1, 0, 0), -13, 3);
        check.due(x, "ahead of the other", x.copy(0, 0, 1, -1, 0), -13, 3);
        check.due(x, "the same, its end", x.copy(0, 5, 0, 5, 0), 0, 0);
        check.due(x, "the same, behind it", x.copy(0, 5, 0, 6, 0), -13, 3);
        row(x, 0, 0, 1, 2, 3, 4, 5);
        row(x, 1, 0, 0, 0, 0);
    }

    static void copyBeyond() {
        check.says("INDEX: i, j, n below 0 or beyond.");
        int[][] beyond = {{0, 0, -1}, {0, 0, 4}, {3, 0, 3}, {4, 0, 2}, {5, 0, 1}, {0, 1, 3}, {0, 2, 2}, {0, 3, 1}, {-1, 0, 1}, {0, -1, 1},
                {5, 3, -1}, {0, 0, LEAST}, {0, 0, MOST}, {1, 1, MOST}, {MOST, 0, 1}, {0, MOST, 1}, {MOST, MOST, MOST}, {LEAST, 0, 0},
                {0, LEAST, 0}, {LEAST, LEAST, LEAST}, {MOST, MOST, LEAST}};
        TurnQueue x = numbered(2, 5);
        x.sheet(1, 2, 3);
        for (int[] at : beyond) {
            check.due(x, "copy(0, " + at[0] + ", 1, " + at[1] + ", " + at[2] + ")", x.copy(0, at[0], 1, at[1], at[2]), -13, 3);
        }
        row(x, 0, 2, 1, 2, 3, 4, 5);
        row(x, 1, 2, 0, 0, 0);
        check.due(x, "as many as go", x.copy(0, 2, 1, 0, 3), 3, 0);
        row(x, 1, 2, 3, 4, 5);
    }

    static void copyFaultsInTheirOrder() {
        check.says("UNKNOWN; FAULTS NULL (the first, the other), CAST (unlike LANES), INDEX");
        TurnQueue x = new TurnQueue();
        for (int k : NO_SHEETS) {
            check.due(x, "no first " + k, x.copy(k, -1, 0, -1, -1), TurnQueue.UNKNOWN, 0);
            check.due(x, "no other " + k, x.copy(0, -1, k, -1, -1), TurnQueue.UNKNOWN, 0);
            check.due(x, "neither " + k, x.copy(k, 0, k, 0, 0), TurnQueue.UNKNOWN, 0);
        }
        check.due(x, "both nothing", x.copy(0, -1, 1, -1, -1), -11, 1);
        check.due(x, "the same nothing", x.copy(2, 0, 2, 0, 0), -11, 1);
        x.sheet(0, 0, 2);
        check.due(x, "the other nothing", x.copy(0, -1, 1, -1, -1), -11, 1);
        check.due(x, "the first nothing", x.copy(1, -1, 0, -1, -1), -11, 1);
        for (int lane = 1; lane < 3; lane++) {
            x.sheet(1, lane, 2);
            check.due(x, "unlike LANES, and beyond", x.copy(0, -1, 1, -1, -1), -12, 2);
            check.due(x, "unlike LANES the other way", x.copy(1, 9, 0, 9, 9), -12, 2);
            check.due(x, "unlike LANES, none of the cells", x.copy(0, 0, 1, 0, 0), -12, 2);
        }
        x.sheet(1, 0, 2);
        check.due(x, "n below 0 is INDEX, not SIZE", x.copy(0, 0, 1, 0, -1), -13, 3);
        check.due(x, "no fault", x.copy(0, 0, 1, 0, 2), 2, 0);
    }

    // ---- promises 25 to 28

    static void tellings() {
        check.says("PERSON (1): what it WANTS. MOTHER (2): what PERSON's gives, and 100. COUSIN (3): what MOTHER's gives, and what PERSON's gives (MOTHER's left out).");
        for (int wants = 1; wants <= 9; wants++) {
            TurnQueue x = Check.with("d0;p00" + wants + ";m00" + wants + ";c00" + wants);
            check.due("tell(0)", x.tell(0), wants);
            check.due("trace()", x.trace(), 1);
            check.due("tell(1)", x.tell(1), wants + 100);
            check.due("trace()", x.trace(), (1 * 31 + 2) * 31 + 1);
            check.due("tell(2)", x.tell(2), 2 * wants + 100);
            check.due("trace()", x.trace(), ((((((1 * 31 + 2) * 31 + 1) * 31 + 3) * 31 + 2) * 31 + 1) * 31) + 1);
        }
        TurnQueue cousin = Check.with("d0;c004");
        cousin.tell(0);
        check.due("trace() of a cousin's", cousin.trace(), 3 * 29791 + 2 * 961 + 1 * 31 + 1);
        TurnQueue mother = Check.with("d0;m004");
        mother.tell(0);
        check.due("trace() of a mother's", mother.trace(), 2 * 31 + 1);
    }

    static void greetings() {
        check.says("GREETED by a lent body (4): its number; COUSINS have their own (5): 90.");
        TurnQueue x = Check.with("d0;p001;m001;c001;p001;m001;c001;p001");
        int[] want = {0, 1, 90, 3, 4, 90, 6};
        int trace = 0;
        for (int p = 0; p < 7; p++) {
            check.due("greet(" + p + ")", x.greet(p), want[p]);
            trace = 31 * trace + (want[p] == 90 ? 5 : 4);
            check.due("trace()", x.trace(), trace);
        }
    }

    static void tellAndGreetRefused() {
        check.says("TELLING of a PERSON. UNKNOWN.");
        check.says("How one GREETS it. UNKNOWN.");
        TurnQueue x = Check.with("d0;c001;m001");
        x.tell(0);
        int trace = x.trace();
        for (int p : new int[] {-1, 2, 7, LEAST, MOST}) {
            check.due("tell(" + p + ")", x.tell(p), TurnQueue.UNKNOWN);
            check.due("greet(" + p + ")", x.greet(p), TurnQueue.UNKNOWN);
            check.due("no body began", x.trace(), trace);
        }
        TurnQueue none = new TurnQueue();
        check.due("no DAY, tell(0)", none.tell(0), TurnQueue.UNKNOWN);
        check.due("no DAY, greet(0)", none.greet(0), TurnQueue.UNKNOWN);
        check.due("no DAY, trace()", none.trace(), 0);
    }

    static void traceWraps() {
        check.says("TELLING of PERSONS by bodies that leave their number in TRACE (an int that wraps, 0 at first, becomes 31 times it and the number) as they begin");
        TurnQueue x = Check.with("d0;p004");
        check.due("0 at first", x.trace(), 0);
        int[] want = {1, 32, 993, 30784, 954305, 29583456, 917087137, -1635069824, 852443009, 655929504};
        for (int k = 0; k < want.length; k++) {
            x.tell(0);
            check.due("trace() behind " + (k + 1), x.trace(), want[k]);
        }
        for (int k = 0; k < 400; k++) x.tell(0);
        check.truth("it goes on", x.trace() != 0);
    }

    static void traceStaysByAllElse() {
        check.says("TRACE.");
        TurnQueue x = Check.with("d0;p004;c005");
        x.tell(1);
        int trace = x.trace();
        x.as(1, 2);
        x.as(0, 2);
        x.ofPerson(1, 0);
        x.served(1);
        x.day(0, 0, 0, 7);
        x.day(0, 0, 0, 0);
        check.due("trace()", x.trace(), trace);
        check.due("trace() once more", x.trace(), trace);
    }

    // ---- promise 27

    static void asAtItsEdges() {
        check.says("A PERSON, taken as one of a kind: 1. UNKNOWN; OUTSIDE; CAST: it is none.");
        TurnQueue x = Check.with("d0;p004;m005;c006");
        for (int p = 0; p < 3; p++) {
            for (int kind = 0; kind < 3; kind++) {
                check.due(x, "as(" + p + ", " + kind + ")", x.as(p, kind), kind <= p ? 1 : -12, kind <= p ? 0 : 2);
            }
            for (int kind : new int[] {-1, 3, LEAST, MOST}) check.due(x, "as(" + p + ", " + kind + ")", x.as(p, kind), TurnQueue.OUTSIDE, 0);
        }
        for (int p : new int[] {-1, 3, 7, LEAST, MOST}) {
            for (int kind = -1; kind < 4; kind++) check.due(x, "as(" + p + ", " + kind + ")", x.as(p, kind), TurnQueue.UNKNOWN, 0);
        }
        TurnQueue none = new TurnQueue();
        check.due(none, "no DAY", none.as(0, 3), TurnQueue.UNKNOWN, 0);
    }

    // ---- promise 29

    static void faultAheadOfAny() {
        check.says("0: it came to none, or was refused (0 ahead of any)");
        TurnQueue x = new TurnQueue();
        check.due("new", x.fault(), 0);
        x.served(0);
        x.bell(0, true);
        x.lose(4);
        check.due("refused calls that name none", x.fault(), 0);
        x.put(0, 0, 0);
        check.due("NULL", x.fault(), 1);
        check.due("asked again", x.fault(), 1);
    }

    /** Behind a FAULT each call that names FAULTS tells its own, each other one leaves that FAULT. */
    static void faultOfTheLatest() {
        check.says("The FAULT of the latest call that names one: 0: it came to none, or was refused (0 ahead of any).");
        TurnQueue x = Check.with("d0;p001;c001");
        x.sheet(1, 1, 2);
        check.due(x, "a FAULT", x.as(0, 2), -12, 2);
        check.due(x, "as", x.as(1, 2), 1, 0);
        check.due(x, "a FAULT", x.put(3, 0, 0), -11, 1);
        check.due(x, "put", x.put(1, 1, 5), 1, 0);
        check.due(x, "a FAULT", x.sheet(2, 0, -1), -14, 4);
        check.due(x, "sheet", x.sheet(2, 0, 0), 1, 0);
        check.due(x, "a FAULT", x.cell(1, 2, 1), TurnQueue.LOST, 3);
        check.due(x, "cell", x.cell(1, 1, 1), 5, 0);
        check.due(x, "a FAULT", x.copy(1, 0, 0, 0, 0), -12, 2);
        check.due(x, "copy", x.copy(1, 1, 1, 0, 1), 1, 0);
        check.due(x, "a FAULT", x.day(0, 0, 0, -1), -14, 4);
        check.due(x, "day, a text that is not taken", x.day(0, 0, 0, 3), -103, 0);
        check.due(x, "a FAULT", x.day(0, 0, 13, 0), -13, 3);
        check.due(x, "day", x.day(0, 0, 0, 12), 2, 0);
        check.due(x, "a FAULT", x.day(0, 1, 0, 12), -12, 2);
        check.due(x, "lose", x.lose(2), 1, 2);
        check.due(x, "lose, nothing", x.lose(2), 0, 2);
        check.due(x, "bell", x.bell(5, true), 1, 2);
        check.due(x, "bell, refused", x.bell(60, true), TurnQueue.UNKNOWN, 2);
        check.due(x, "many, refused", x.many(4), TurnQueue.OUTSIDE, 2);
        check.due(x, "waits, LOST", x.waits(2), TurnQueue.LOST, 2);
        check.due(x, "tell", x.tell(0), 1, 2);
    }

    static void faultNumbers() {
        check.says("it answers -10 less it (LOST, where a long is answered, as for refusals) and changes nothing; fault() tells it");
        TurnQueue x = Check.with("d0;p001");
        check.due(x, "NULL", x.put(1, 0, 0), -11, 1);
        check.due(x, "CAST", x.as(0, 1), -12, 2);
        check.due(x, "INDEX", x.put(0, 7, 0), -13, 3);
        check.due(x, "SIZE", x.sheet(0, 0, -1), -14, 4);
        check.due(x, "NULL of a long", x.cell(1, 0, 0), TurnQueue.LOST, 1);
        check.due(x, "CAST of a long", x.cell(0, 0, 1), TurnQueue.LOST, 2);
        check.due(x, "INDEX of a long", x.cell(0, 7, 0), TurnQueue.LOST, 3);
        check.due(x, "UNKNOWN of a long", x.cell(4, 0, 0), TurnQueue.LOST, 0);
        check.due(x, "OUTSIDE of a long", x.cell(0, 0, 3), TurnQueue.LOST, 0);
    }

    // ---- promise 30

    static void manyAtItsEdges() {
        check.says("How many: 0 PERSONS, 1 the LAW, 2 BELLS, 3 READINGS (0 all without a DAY). OUTSIDE.");
        TurnQueue x = new TurnQueue();
        for (int what = 0; what < 4; what++) check.due("no DAY, many(" + what + ")", x.many(what), 0);
        for (int what : new int[] {-1, 4, LEAST, MOST}) check.due("no DAY, many(" + what + ")", x.many(what), TurnQueue.OUTSIDE);
        Check.day(x, "d2;p001;p001;p001;p001;p001;p001;p001");
        for (int minute = 0; minute < 60; minute++) x.bell(minute, true);
        for (int k = 0; k < 8; k++) x.reading(0, 0);
        int[] want = {7, 2, 60, 8};
        for (int what = 0; what < 4; what++) check.due("many(" + what + ")", x.many(what), want[what]);
        for (int what : new int[] {-1, 4, LEAST, MOST}) check.due("many(" + what + ")", x.many(what), TurnQueue.OUTSIDE);
    }

    static void theConstants() {
        check.says("public static final int UNKNOWN = -1, OUTSIDE = -2, STATE = -3, FULL = -4, NONE = -9;");
        check.due("UNKNOWN", TurnQueue.UNKNOWN, -1);
        check.due("OUTSIDE", TurnQueue.OUTSIDE, -2);
        check.due("STATE", TurnQueue.STATE, -3);
        check.due("FULL", TurnQueue.FULL, -4);
        check.says("NONE is -9.");
        check.due("NONE", TurnQueue.NONE, -9);
        check.says("public static final long LOST = Long.MIN_VALUE;");
        check.due("LOST", TurnQueue.LOST, Long.MIN_VALUE);
    }
}
