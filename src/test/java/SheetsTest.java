/** Part 5, sheets and parts: promises 20 to 30. */
public final class SheetsTest {
    private static final Check check = new Check();
    private static TurnQueue x;

    public static void main(String[] args) {
        sheet();
        lose();
        put();
        cell();
        copy();
        copyFaults();
        tell();
        greet();
        as();
        faultStays();
        faultIsOfTheLatest();
        many();
        check.end();
    }

    private static void answers(String call, long got, long want, int fault) {
        check.due(call, got, want);
        check.due("fault() of " + call, x.fault(), fault);
    }

    private static void sheet() {
        x = new TurnQueue();
        answers("sheet(4, 3, 61)", x.sheet(4, 3, 61), TurnQueue.UNKNOWN, 0);
        answers("sheet(-1, 0, 1)", x.sheet(-1, 0, 1), TurnQueue.UNKNOWN, 0);
        answers("sheet(0, 3, -1)", x.sheet(0, 3, -1), TurnQueue.OUTSIDE, 0);
        answers("sheet(0, -1, 1)", x.sheet(0, -1, 1), TurnQueue.OUTSIDE, 0);
        answers("sheet(0, 0, 61)", x.sheet(0, 0, 61), TurnQueue.OUTSIDE, 0);
        answers("sheet(0, 0, -1)", x.sheet(0, 0, -1), -14, 4);
        answers("sheet(0, 0, least)", x.sheet(0, 0, Integer.MIN_VALUE), -14, 4);
        answers("it has nothing yet", x.put(0, 0, 1), -11, 1);
        answers("sheet(0, 2, 60)", x.sheet(0, 2, 60), 1, 0);
        answers("put(0, 59, 7)", x.put(0, 59, 7), 1, 0);
        answers("sheet(0, 2, -1)", x.sheet(0, 2, -1), -14, 4);
        answers("its row stays", x.cell(0, 59, 2), 7, 0);
        answers("sheet(0, 1, 60)", x.sheet(0, 1, 60), 1, 0);
        answers("a new row is of 0", x.cell(0, 59, 1), 0, 0);
        answers("sheet(3, 0, 0)", x.sheet(3, 0, 0), 1, 0);
        answers("a row of none is no nothing", x.put(3, 0, 1), -13, 3);
    }

    private static void lose() {
        x = new TurnQueue();
        x.sheet(2, 0, -1);
        check.due("lose(2)", x.lose(2), 0);
        check.due("lose names no fault", x.fault(), 4);
        x.sheet(2, 0, 0);
        check.due("lose(2)", x.lose(2), 1);
        check.due("lose(2) again", x.lose(2), 0);
        check.due("lose(4)", x.lose(4), TurnQueue.UNKNOWN);
        check.due("lose(-1)", x.lose(-1), TurnQueue.UNKNOWN);
        answers("it has nothing", x.cell(2, 0, 0), TurnQueue.LOST, 1);
    }

    private static void put() {
        x = new TurnQueue();
        answers("put(4, 0, 0)", x.put(4, 0, 0), TurnQueue.UNKNOWN, 0);
        answers("put(-1, 0, 0)", x.put(-1, 0, 0), TurnQueue.UNKNOWN, 0);
        answers("put(0, -1, 0)", x.put(0, -1, 0), -11, 1);
        x.sheet(0, 0, 2);
        answers("put(0, -1, 0)", x.put(0, -1, 0), -13, 3);
        answers("put(0, 2, 0)", x.put(0, 2, 0), -13, 3);
        answers("put(0, most, 0)", x.put(0, Integer.MAX_VALUE, 0), -13, 3);
        int[] put = {127, 128, 255, 256, -129, 32768, 65535, 70001, Integer.MIN_VALUE};
        for (int lane = 0; lane < 3; lane++) {
            x.sheet(1, lane, 3);
            for (int v : put) {
                long want = lane == 0 ? (byte) v : lane == 1 ? (short) v : v;
                answers("put(1, 2, " + v + ")", x.put(1, 2, v), 1, 0);
                answers("cut to lane " + lane, x.cell(1, 2, lane), want, 0);
            }
            answers("the cell ahead of it", x.cell(1, 1, lane), 0, 0);
        }
    }

    private static void cell() {
        x = new TurnQueue();
        answers("cell(4, 0, 3)", x.cell(4, 0, 3), TurnQueue.LOST, 0);
        answers("cell(0, 0, -1)", x.cell(0, 0, -1), TurnQueue.LOST, 0);
        answers("cell(0, -1, 0)", x.cell(0, -1, 0), TurnQueue.LOST, 1);
        answers("cell(0, 0, 3)", x.cell(0, 0, 3), TurnQueue.LOST, 0);
        x.sheet(0, 1, 1);
        answers("cell(0, -1, 0)", x.cell(0, -1, 0), TurnQueue.LOST, 2);
        answers("cell(0, -1, 1)", x.cell(0, -1, 1), TurnQueue.LOST, 3);
        answers("cell(0, 1, 1)", x.cell(0, 1, 1), TurnQueue.LOST, 3);
        answers("cell(0, 0, 1)", x.cell(0, 0, 1), 0, 0);
    }

    private static void row(int k, int lane, int... want) {
        for (int i = 0; i < want.length; i++) check.due("cell(" + k + ", " + i + ")", x.cell(k, i, lane), want[i]);
    }

    private static void copy() {
        x = new TurnQueue();
        x.sheet(0, 2, 5);
        for (int i = 0; i < 5; i++) x.put(0, i, i + 1);
        answers("copy on to itself", x.copy(0, 0, 0, 1, 4), 4, 0);
        row(0, 2, 1, 1, 2, 3, 4);
        answers("copy back on itself", x.copy(0, 2, 0, 0, 3), 3, 0);
        row(0, 2, 2, 3, 4, 3, 4);
        x.sheet(1, 2, 3);
        answers("copy to another", x.copy(0, 3, 1, 1, 2), 2, 0);
        row(1, 2, 0, 3, 4);
        answers("copy none at the ends", x.copy(0, 5, 1, 3, 0), 0, 0);
        answers("copy all", x.copy(1, 0, 0, 2, 3), 3, 0);
        row(0, 2, 2, 3, 0, 3, 4);
    }

    private static void copyFaults() {
        x = new TurnQueue();
        answers("no first", x.copy(4, 0, 0, 0, 0), TurnQueue.UNKNOWN, 0);
        answers("no other", x.copy(0, 0, -1, 0, 0), TurnQueue.UNKNOWN, 0);
        answers("nothing", x.copy(0, -1, 1, -1, -1), -11, 1);
        x.sheet(0, 0, 5);
        answers("the other nothing", x.copy(0, 0, 1, 0, 0), -11, 1);
        answers("the first nothing", x.copy(1, 0, 0, 0, 0), -11, 1);
        x.sheet(1, 1, 3);
        answers("unlike lanes", x.copy(0, -1, 1, 0, 0), -12, 2);
        answers("unlike lanes, none", x.copy(0, 0, 1, 0, 0), -12, 2);
        x.sheet(1, 0, 3);
        answers("i below", x.copy(0, -1, 1, 0, 0), -13, 3);
        answers("j below", x.copy(0, 0, 1, -1, 0), -13, 3);
        answers("n below", x.copy(0, 0, 1, 0, -1), -13, 3);
        answers("i beyond", x.copy(0, 6, 1, 0, 0), -13, 3);
        answers("j beyond", x.copy(0, 0, 1, 4, 0), -13, 3);
        answers("n beyond the first", x.copy(0, 3, 1, 0, 3), -13, 3);
        answers("n beyond the other", x.copy(0, 0, 1, 1, 3), -13, 3);
        answers("far", x.copy(0, Integer.MAX_VALUE, 1, 1, Integer.MAX_VALUE), -13, 3);
        answers("n far", x.copy(0, 1, 1, 1, Integer.MAX_VALUE), -13, 3);
    }

    private static int trace(int before, int... bodies) {
        int trace = before;
        for (int body : bodies) trace = trace * 31 + body;
        return trace;
    }

    private static void tell() {
        x = Check.with("d0;p004;m005;c006");
        check.due("tell(0)", x.tell(0), 4);
        check.due("trace", x.trace(), trace(0, 1));
        check.due("tell(1)", x.tell(1), 105);
        check.due("trace", x.trace(), trace(0, 1, 2, 1));
        check.due("tell(2)", x.tell(2), 112);
        check.due("trace", x.trace(), trace(0, 1, 2, 1, 3, 2, 1, 1));
        check.due("tell(3)", x.tell(3), TurnQueue.UNKNOWN);
        check.due("tell(-1)", x.tell(-1), TurnQueue.UNKNOWN);
        check.due("trace stays", x.trace(), trace(0, 1, 2, 1, 3, 2, 1, 1));
        int trace = x.trace();
        for (int k = 0; k < 9; k++) {
            x.tell(2);
            trace = trace(trace, 3, 2, 1, 1);
            check.due("trace wraps", x.trace(), trace);
        }
        check.due("tell without a day", new TurnQueue().tell(0), TurnQueue.UNKNOWN);
    }

    private static void greet() {
        x = Check.with("d0;c006;m005;p004");
        check.due("greet(0)", x.greet(0), 90);
        check.due("trace", x.trace(), 5);
        check.due("greet(1)", x.greet(1), 1);
        check.due("greet(2)", x.greet(2), 2);
        check.due("trace", x.trace(), trace(5, 4, 4));
        check.due("greet(3)", x.greet(3), TurnQueue.UNKNOWN);
        check.due("greet(-1)", x.greet(-1), TurnQueue.UNKNOWN);
        check.due("trace stays", x.trace(), trace(5, 4, 4));
    }

    private static void as() {
        x = Check.with("d0;p004;m005;c006");
        for (int p = 0; p < 3; p++) {
            for (int kind = 0; kind < 3; kind++) {
                boolean is = kind <= p;
                answers("as(" + p + ", " + kind + ")", x.as(p, kind), is ? 1 : -12, is ? 0 : 2);
            }
            answers("as(" + p + ", 3)", x.as(p, 3), TurnQueue.OUTSIDE, 0);
            answers("as(" + p + ", -1)", x.as(p, -1), TurnQueue.OUTSIDE, 0);
        }
        answers("as(3, 3)", x.as(3, 3), TurnQueue.UNKNOWN, 0);
        answers("as(-1, 0)", x.as(-1, 0), TurnQueue.UNKNOWN, 0);
        check.due("no body begins", x.trace(), 0);
    }

    /** A call that names no faults leaves fault() as it was. */
    private static void faultStays() {
        x = Check.with("d0;p004;m005;c006");
        x.as(0, 2);
        x.ofPerson(9, 0);
        x.come(0, 1);
        x.runOut(0, 1);
        x.bell(0, true);
        x.bells();
        x.served(0);
        x.queue(0, 0);
        x.waits(0);
        x.best(0, 0);
        x.calm(-1);
        x.loss();
        x.ringer(0, 0);
        x.pays(0, 0);
        x.reading(0, 0);
        x.back(1);
        x.which(-1);
        x.noon(0);
        x.lose(3);
        x.tell(2);
        x.greet(2);
        x.trace();
        x.fault();
        x.many(0);
        check.due("fault() stays", x.fault(), 2);
        x.put(3, 0, 0);
        check.due("fault() of put", x.fault(), 1);
        x.put(4, 0, 0);
        check.due("fault() of a put that is refused", x.fault(), 0);
    }

    private static void clears(String call, long got, long want) {
        answers(call, got, want, 0);
        answers("a fault again", x.as(0, 2), -12, 2);
    }

    /** Each call that names faults tells 0 where it comes to none or is refused. */
    private static void faultIsOfTheLatest() {
        x = Check.with("d0;p004;m005");
        answers("a fault", x.as(0, 2), -12, 2);
        clears("day, no sheet", x.day(4, 0, 0, 0), TurnQueue.UNKNOWN);
        clears("day, no lane", x.day(0, 3, 0, 0), TurnQueue.OUTSIDE);
        clears("day, no text", x.day(0, 0, 1, 2), -100);
        clears("sheet, no sheet", x.sheet(4, 0, 0), TurnQueue.UNKNOWN);
        clears("sheet, no lane", x.sheet(0, 3, 0), TurnQueue.OUTSIDE);
        clears("sheet", x.sheet(1, 0, 2), 1);
        clears("put, no sheet", x.put(4, 0, 0), TurnQueue.UNKNOWN);
        clears("put", x.put(1, 0, 5), 1);
        clears("cell, no sheet", x.cell(4, 0, 0), TurnQueue.LOST);
        clears("cell, no lane", x.cell(1, 0, 3), TurnQueue.LOST);
        clears("cell", x.cell(1, 0, 0), 5);
        clears("copy, no sheet", x.copy(1, 0, 4, 0, 0), TurnQueue.UNKNOWN);
        clears("copy", x.copy(1, 0, 0, 0, 1), 1);
        clears("as, no person", x.as(2, 0), TurnQueue.UNKNOWN);
        clears("as, no kind", x.as(0, 3), TurnQueue.OUTSIDE);
        clears("as", x.as(1, 1), 1);
        x.put(0, 0, 'd');
        clears("day", x.day(0, 0, 0, 7), 1);
    }

    private static void many() {
        x = Check.with("d2;p004;m005;c006", 1, 2, 58, 59);
        x.reading(1, 1);
        check.due("many(0)", x.many(0), 3);
        check.due("many(1)", x.many(1), 2);
        check.due("many(2)", x.many(2), 4);
        check.due("many(3)", x.many(3), 1);
        check.due("many(4)", x.many(4), TurnQueue.OUTSIDE);
        check.due("many(-1)", x.many(-1), TurnQueue.OUTSIDE);
        check.due("no day: many(4)", new TurnQueue().many(4), TurnQueue.OUTSIDE);
    }
}
