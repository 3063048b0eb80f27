import java.util.function.ToLongFunction;

/**
 * Calls that are refused or come to a FAULT: what they answer, what fault() tells behind them, and that
 * all else is as it was, which is seen from a twin of the object to which the call was not made.
 */
public final class RefusalsTest {
    private static final Check check = Check.byTheDocument();
    private static final int LEAST = Integer.MIN_VALUE, MOST = Integer.MAX_VALUE;
    private static final int UNKNOWN = TurnQueue.UNKNOWN, OUTSIDE = TurnQueue.OUTSIDE, STATE = TurnQueue.STATE;
    /** Told for a call that names no FAULTS: fault() is as it was ahead of it. */
    private static final int AS_IT_WAS = -1;
    private static final int NEW = 0, DAY = 1, FULL_READINGS = 2;

    public static void main(String[] args) {
        check.runAll(RefusalsTest.class);
        check.end();
    }

    /** Objects with something to lose, and the latest FAULT a CAST (NULL where there is no DAY). */
    private static TurnQueue made(int state) {
        TurnQueue x = new TurnQueue();
        if (state != NEW) {
            Check.day(x, "d1;p003;m024;c121");
            for (int minute : new int[] {0, 4, 59}) x.bell(minute, true);
            x.runOut(1, 2);
            x.come(0, 1);
            for (int k = 0; k < (state == DAY ? 3 : 8); k++) x.reading(k % 3, x.served(k % 3));
            x.tell(2);
            x.greet(0);
        }
        x.sheet(1, 1, 3);
        x.put(1, 0, 300);
        x.put(1, 2, -7);
        x.sheet(2, 2, 0);
        if (state == NEW) x.put(0, 0, 0);
        else x.as(0, 2);
        return x;
    }

    /** All that can be seen of an object but fault(); its READINGS are taken back one by one to be seen. */
    private static String seen(TurnQueue x) {
        StringBuilder told = new StringBuilder();
        for (int what = 0; what < 4; what++) told.append(x.many(what)).append(' ');
        told.append(x.bells()).append(' ').append(x.trace());
        for (int p = 0; p < x.many(0); p++) {
            told.append(" / ").append(x.served(p));
            for (int what = 0; what < 4; what++) told.append(' ').append(x.ofPerson(p, what));
        }
        for (int k = 0; k < 4; k++) told.append(" / ").append(row(x, k));
        for (int left = x.many(3); left > 0; left = x.back(1)) told.append(" / ").append(x.which(-1)).append(' ').append(x.which(0));
        return told.toString();
    }

    private static String row(TurnQueue x, int k) {
        StringBuilder told = new StringBuilder();
        for (int lane = 0; lane < 3; lane++) {
            x.cell(k, -1, lane);
            told.append("lane ").append(lane).append(" fault ").append(x.fault());
            for (int i = 0; i < 61 && x.cell(k, i, lane) != TurnQueue.LOST; i++) told.append(' ').append(x.cell(k, i, lane));
        }
        return told.toString();
    }

    private static void refused(int state, String name, ToLongFunction<TurnQueue> call, long answer, int fault) {
        TurnQueue x = made(state);
        int before = x.fault();
        String what = name + " of " + new String[] {"a new object", "a day", "a day with eight readings"}[state];
        check.due(what, call.applyAsLong(x), answer);
        check.due("fault() behind " + what, x.fault(), fault == AS_IT_WAS ? before : fault);
        check.same("all behind " + what, seen(x), seen(made(state)));
    }

    /** Of an object in every state. */
    private static void refused(String name, ToLongFunction<TurnQueue> call, long answer, int fault) {
        for (int state = NEW; state <= FULL_READINGS; state++) refused(state, name, call, answer, fault);
    }

    static void theTwinsAreToldApart() {
        check.says("They change nothing (but fault(), of a call that names FAULTS).");
        for (int state = NEW; state <= FULL_READINGS; state++) {
            check.same("a twin", seen(made(state)), seen(made(state)));
            check.due("its latest FAULT", made(state).fault(), state == NEW ? 1 : 2);
        }
        // what would be changed can be seen
        TurnQueue x = made(DAY);
        x.put(1, 1, 1);
        check.truth("a cell is seen", !seen(x).equals(seen(made(DAY))));
        TurnQueue y = made(DAY);
        y.back(1);
        y.reading(2, 199);
        check.truth("a READING is seen", !seen(y).equals(seen(made(DAY))));
        TurnQueue z = made(DAY);
        z.sheet(2, 1, 0);
        check.truth("a lane is seen", !seen(z).equals(seen(made(DAY))));
    }

    static void ofSeveralTheFirst() {
        check.says("STATE (as told), FULL; of several the first in the order in which a call's line tells them.");
        refused("UNKNOWN ahead of OUTSIDE and FULL", x -> x.reading(3, 200), UNKNOWN, AS_IT_WAS);
        refused(FULL_READINGS, "OUTSIDE ahead of FULL", x -> x.reading(0, 200), OUTSIDE, AS_IT_WAS);
        refused(FULL_READINGS, "FULL alone", x -> x.reading(0, 199), TurnQueue.FULL, AS_IT_WAS);
        refused(NEW, "UNKNOWN ahead of STATE: bell", x -> x.bell(60, true), UNKNOWN, AS_IT_WAS);
        refused(NEW, "UNKNOWN ahead of STATE: calm", x -> x.calm(-2), UNKNOWN, AS_IT_WAS);
        refused(NEW, "UNKNOWN ahead of STATE: which", x -> x.which(2), UNKNOWN, AS_IT_WAS);
        refused(NEW, "OUTSIDE ahead of STATE: noon", x -> x.noon(200), OUTSIDE, AS_IT_WAS);
        refused("UNKNOWN ahead of OUTSIDE: as", x -> x.as(3, 3), UNKNOWN, 0);
        refused("UNKNOWN ahead of OUTSIDE and SIZE: sheet", x -> x.sheet(4, 3, -1), UNKNOWN, 0);
        refused("OUTSIDE ahead of SIZE: sheet", x -> x.sheet(1, 3, -1), OUTSIDE, 0);
        refused("UNKNOWN ahead of NULL: put", x -> x.put(4, 0, 0), UNKNOWN, 0);
        refused("NULL ahead of INDEX: put", x -> x.put(3, -1, 0), -11, 1);
        refused("OUTSIDE ahead of CAST: day", x -> x.day(1, 3, 0, 1), OUTSIDE, 0);
        refused("CAST ahead of SIZE and INDEX: day", x -> x.day(1, 0, -1, -1), -12, 2);
        refused("SIZE ahead of INDEX: day", x -> x.day(1, 1, -1, -1), -14, 4);
        refused("INDEX ahead of the text: day", x -> x.day(1, 1, 0, 4), -13, 3);
    }

    static void noSuchPerson() {
        check.says("UNKNOWN (there is no such PERSON, BELL, READING, SHEET, place)");
        for (int p : new int[] {-1, 3, 6, 7, LEAST, MOST}) {
            refused("ofPerson(" + p + ", 4)", x -> x.ofPerson(p, 4), UNKNOWN, AS_IT_WAS);
            refused("come(" + p + ", 60)", x -> x.come(p, 60), UNKNOWN, AS_IT_WAS);
            refused("come(" + p + ", 5)", x -> x.come(p, 5), UNKNOWN, AS_IT_WAS);
            refused("runOut(" + p + ", 60)", x -> x.runOut(p, 60), UNKNOWN, AS_IT_WAS);
            refused("runOut(" + p + ", 5)", x -> x.runOut(p, 5), UNKNOWN, AS_IT_WAS);
            refused("served(" + p + ")", x -> x.served(p), UNKNOWN, AS_IT_WAS);
            refused("best(" + p + ", 2)", x -> x.best(p, 2), UNKNOWN, AS_IT_WAS);
            refused("ringer(" + p + ", 2)", x -> x.ringer(p, 2), UNKNOWN, AS_IT_WAS);
            refused("pays(" + p + ", 2)", x -> x.pays(p, 2), UNKNOWN, AS_IT_WAS);
            refused("reading(" + p + ", 200)", x -> x.reading(p, 200), UNKNOWN, AS_IT_WAS);
            refused("reading(" + p + ", 5)", x -> x.reading(p, 5), UNKNOWN, AS_IT_WAS);
            refused("tell(" + p + ")", x -> x.tell(p), UNKNOWN, AS_IT_WAS);
            refused("greet(" + p + ")", x -> x.greet(p), UNKNOWN, AS_IT_WAS);
            refused("as(" + p + ", 3)", x -> x.as(p, 3), UNKNOWN, 0);
            if (p != -1) refused("calm(" + p + ")", x -> x.calm(p), UNKNOWN, AS_IT_WAS);
        }
        refused("calm(-2)", x -> x.calm(-2), UNKNOWN, AS_IT_WAS);
    }

    static void noSuchMinuteOrPlace() {
        check.says("UNKNOWN (there is no such PERSON, BELL, READING, SHEET, place)");
        for (int minute : new int[] {-1, 60, 64, LEAST, MOST}) {
            refused("bell(" + minute + ", true)", x -> x.bell(minute, true), UNKNOWN, AS_IT_WAS);
            refused("bell(" + minute + ", false)", x -> x.bell(minute, false), UNKNOWN, AS_IT_WAS);
        }
        for (int minute : new int[] {-1, 200, LEAST, MOST}) refused("queue(" + minute + ", -2)", x -> x.queue(minute, -2), UNKNOWN, AS_IT_WAS);
        for (int k : new int[] {-2, LEAST}) refused("queue(5, " + k + ")", x -> x.queue(5, k), UNKNOWN, AS_IT_WAS);
        for (int q : new int[] {-2, 2, LEAST, MOST}) refused("which(" + q + ")", x -> x.which(q), UNKNOWN, AS_IT_WAS);
    }

    static void noSuchSheet() {
        check.says("UNKNOWN (there is no such PERSON, BELL, READING, SHEET, place)");
        for (int k : new int[] {-1, 4, LEAST, MOST}) {
            refused("day(" + k + ", 3, -1, -1)", x -> x.day(k, 3, -1, -1), UNKNOWN, 0);
            refused("sheet(" + k + ", 3, 61)", x -> x.sheet(k, 3, 61), UNKNOWN, 0);
            refused("sheet(" + k + ", 0, -1)", x -> x.sheet(k, 0, -1), UNKNOWN, 0);
            refused("lose(" + k + ")", x -> x.lose(k), UNKNOWN, AS_IT_WAS);
            refused("put(" + k + ", -1, 1)", x -> x.put(k, -1, 1), UNKNOWN, 0);
            refused("cell(" + k + ", -1, 3)", x -> x.cell(k, -1, 3), TurnQueue.LOST, 0);
            refused("copy(" + k + ", -1, 3, -1, -1)", x -> x.copy(k, -1, 3, -1, -1), UNKNOWN, 0);
            refused("copy(3, -1, " + k + ", -1, -1)", x -> x.copy(3, -1, k, -1, -1), UNKNOWN, 0);
        }
    }

    static void anotherNumberIsNotAsTold() {
        check.says("OUTSIDE (another number is not as told)");
        for (int state = DAY; state <= FULL_READINGS; state++) {
            for (int p = 0; p < 3; p++) {
                int one = p;
                for (int minute : new int[] {-1, 60, LEAST, MOST}) {
                    refused(state, "come(" + p + ", " + minute + ")", x -> x.come(one, minute), OUTSIDE, AS_IT_WAS);
                    refused(state, "runOut(" + p + ", " + minute + ")", x -> x.runOut(one, minute), OUTSIDE, AS_IT_WAS);
                }
                for (int minute : new int[] {-1, 200, LEAST, MOST}) refused(state, "reading(" + p + ", " + minute + ")", x -> x.reading(one, minute), OUTSIDE, AS_IT_WAS);
                for (int what : new int[] {-1, 2, LEAST, MOST}) {
                    refused(state, "best(" + p + ", " + what + ")", x -> x.best(one, what), OUTSIDE, AS_IT_WAS);
                    refused(state, "ringer(" + p + ", " + what + ")", x -> x.ringer(one, what), OUTSIDE, AS_IT_WAS);
                    refused(state, "pays(" + p + ", " + what + ")", x -> x.pays(one, what), OUTSIDE, AS_IT_WAS);
                }
                for (int what : new int[] {-1, 4, LEAST, MOST}) refused(state, "ofPerson(" + p + ", " + what + ")", x -> x.ofPerson(one, what), OUTSIDE, AS_IT_WAS);
                for (int kind : new int[] {-1, 3, LEAST, MOST}) refused(state, "as(" + p + ", " + kind + ")", x -> x.as(one, kind), OUTSIDE, 0);
            }
            refused(state, "come(0, NONE)", x -> x.come(0, TurnQueue.NONE), OUTSIDE, AS_IT_WAS);
        }
        for (int minute : new int[] {-1, 200, LEAST, MOST}) refused("noon(" + minute + ")", x -> x.noon(minute), OUTSIDE, AS_IT_WAS);
        for (int what : new int[] {-1, 4, LEAST, MOST}) refused("many(" + what + ")", x -> x.many(what), OUTSIDE, AS_IT_WAS);
        for (int which : new int[] {-1, 2, LEAST, MOST}) refused("waits(" + which + ")", x -> x.waits(which), TurnQueue.LOST, AS_IT_WAS);
        for (int k : new int[] {-1, 9, LEAST, MOST}) refused("back(" + k + ")", x -> x.back(k), OUTSIDE, AS_IT_WAS);
        refused(NEW, "back(1)", x -> x.back(1), OUTSIDE, AS_IT_WAS);
        refused(DAY, "back(4)", x -> x.back(4), OUTSIDE, AS_IT_WAS);
    }

    static void noSuchLaneAndTooManyCells() {
        check.says("OUTSIDE (another number is not as told)");
        for (int k = 0; k < 4; k++) {
            int one = k;
            for (int lane : new int[] {-1, 3, LEAST, MOST}) {
                refused("day(" + k + ", " + lane + ", -1, -1)", x -> x.day(one, lane, -1, -1), OUTSIDE, 0);
                refused("sheet(" + k + ", " + lane + ", -1)", x -> x.sheet(one, lane, -1), OUTSIDE, 0);
                refused("sheet(" + k + ", " + lane + ", 1)", x -> x.sheet(one, lane, 1), OUTSIDE, 0);
                refused("cell(" + k + ", -1, " + lane + ")", x -> x.cell(one, -1, lane), TurnQueue.LOST, 0);
            }
            for (int n : new int[] {61, MOST}) refused("sheet(" + k + ", 0, " + n + ")", x -> x.sheet(one, 0, n), OUTSIDE, 0);
        }
    }

    static void noDay() {
        check.says("STATE (as told)");
        refused(NEW, "bell(0, true)", x -> x.bell(0, true), STATE, AS_IT_WAS);
        refused(NEW, "bell(59, false)", x -> x.bell(59, false), STATE, AS_IT_WAS);
        refused(NEW, "calm(-1)", x -> x.calm(-1), STATE, AS_IT_WAS);
        refused(NEW, "loss()", x -> x.loss(), STATE, AS_IT_WAS);
        refused(NEW, "waits(0)", x -> x.waits(0), TurnQueue.LOST, AS_IT_WAS);
        refused(NEW, "waits(1)", x -> x.waits(1), TurnQueue.LOST, AS_IT_WAS);
        for (int q = -1; q < 2; q++) {
            int one = q;
            refused(NEW, "which(" + q + ")", x -> x.which(one), STATE, AS_IT_WAS);
        }
        for (int minute : new int[] {0, 199}) refused(NEW, "noon(" + minute + ")", x -> x.noon(minute), STATE, AS_IT_WAS);
        refused(NEW, "calm(0)", x -> x.calm(0), UNKNOWN, AS_IT_WAS);
    }

    static void full() {
        check.says("A READING: its number. UNKNOWN: PERSON; OUTSIDE: minute (0 .. 199); FULL.");
        for (int minute : new int[] {0, 5, 199}) refused(FULL_READINGS, "reading(0, " + minute + ")", x -> x.reading(0, minute), TurnQueue.FULL, AS_IT_WAS);
        refused(FULL_READINGS, "reading(2, 5)", x -> x.reading(2, 5), TurnQueue.FULL, AS_IT_WAS);
    }

    static void faultsOfSheets() {
        check.says("Of a call the first that is come to, in the order told; it answers -10 less it (LOST, where a long is answered, as for refusals) and changes nothing; fault() tells it.");
        // sheet 3 has nothing, sheet 1 three shorts, sheet 2 a row of no ints
        for (int lane = 0; lane < 3; lane++) {
            int as = lane;
            refused("day(3, " + lane + ", -1, -1)", x -> x.day(3, as, -1, -1), -11, 1);
            refused("cell(3, -1, " + lane + ")", x -> x.cell(3, -1, as), TurnQueue.LOST, 1);
            for (int k = 0; k < 4; k++) {
                int one = k;
                refused("sheet(" + k + ", " + lane + ", -1)", x -> x.sheet(one, as, -1), -14, 4);
                refused("sheet(" + k + ", " + lane + ", least)", x -> x.sheet(one, as, LEAST), -14, 4);
            }
        }
        for (int lane : new int[] {0, 2}) {
            refused("day(1, " + lane + ", -1, -1)", x -> x.day(1, lane, -1, -1), -12, 2);
            refused("cell(1, -1, " + lane + ")", x -> x.cell(1, -1, lane), TurnQueue.LOST, 2);
            refused("cell(1, 0, " + lane + ")", x -> x.cell(1, 0, lane), TurnQueue.LOST, 2);
        }
        for (int i : new int[] {-1, 3, LEAST, MOST}) {
            refused("put(3, " + i + ", 1)", x -> x.put(3, i, 1), -11, 1);
            refused("put(1, " + i + ", 1)", x -> x.put(1, i, 1), -13, 3);
            refused("cell(1, " + i + ", 1)", x -> x.cell(1, i, 1), TurnQueue.LOST, 3);
            refused("day(1, 1, " + i + ", -1)", x -> x.day(1, 1, i, -1), -14, 4);
            refused("day(1, 1, " + i + ", 1)", x -> x.day(1, 1, i, 1), -13, 3);
        }
        refused("put(2, 0, 1)", x -> x.put(2, 0, 1), -13, 3);
        refused("day(1, 1, 0, 3)", x -> x.day(1, 1, 0, 3), -100, 0);
        refused("day(1, 1, 3, 0)", x -> x.day(1, 1, 3, 0), -100, 0);
        refused("day(1, 1, 4, 0)", x -> x.day(1, 1, 4, 0), -13, 3);
        refused("day(2, 2, 0, 0)", x -> x.day(2, 2, 0, 0), -100, 0);
    }

    static void faultsOfCopies() {
        check.says("UNKNOWN; FAULTS NULL (the first, the other), CAST (unlike LANES), INDEX: i, j, n below 0 or beyond.");
        refused("copy(3, -1, 1, -1, -1)", x -> x.copy(3, -1, 1, -1, -1), -11, 1);
        refused("copy(1, -1, 3, -1, -1)", x -> x.copy(1, -1, 3, -1, -1), -11, 1);
        refused("copy(3, 0, 3, 0, 0)", x -> x.copy(3, 0, 3, 0, 0), -11, 1);
        refused("copy(1, -1, 2, -1, -1)", x -> x.copy(1, -1, 2, -1, -1), -12, 2);
        refused("copy(2, 0, 1, 0, 0)", x -> x.copy(2, 0, 1, 0, 0), -12, 2);
        for (int bad : new int[] {-1, 4, LEAST, MOST}) {
            refused("copy(1, " + bad + ", 1, 0, 1)", x -> x.copy(1, bad, 1, 0, 1), -13, 3);
            refused("copy(1, 0, 1, " + bad + ", 1)", x -> x.copy(1, 0, 1, bad, 1), -13, 3);
            refused("copy(1, 0, 1, 0, " + bad + ")", x -> x.copy(1, 0, 1, 0, bad), -13, 3);
            refused("copy(1, " + bad + ", 1, 0, 0)", x -> x.copy(1, bad, 1, 0, 0), -13, 3);
            refused("copy(1, 0, 1, " + bad + ", 0)", x -> x.copy(1, 0, 1, bad, 0), -13, 3);
        }
        // all but the last cell would go
        refused("copy(1, 0, 1, 1, 3)", x -> x.copy(1, 0, 1, 1, 3), -13, 3);
        refused("copy(1, 1, 1, 0, 3)", x -> x.copy(1, 1, 1, 0, 3), -13, 3);
    }

    static void faultsOfKinds() {
        check.says("A PERSON, taken as one of a kind: 1. UNKNOWN; OUTSIDE; CAST: it is none.");
        for (int state = DAY; state <= FULL_READINGS; state++) {
            refused(state, "as(0, 1)", x -> x.as(0, 1), -12, 2);
            refused(state, "as(0, 2)", x -> x.as(0, 2), -12, 2);
            refused(state, "as(1, 2)", x -> x.as(1, 2), -12, 2);
        }
    }

    static void textsThatAreNotTaken() {
        check.says("how many PERSONS; -100 less the FIRST FAULT.");
        // sheet 0 has the text of 17 codes from which the DAY was made
        for (int state = DAY; state <= FULL_READINGS; state++) {
            for (int n = 0; n < 17; n++) {
                int some = n;
                if (n != 7 && n != 12) refused(state, "day(0, 0, 0, " + n + ")", x -> x.day(0, 0, 0, some), -100 - n, 0);
            }
            for (int i = 1; i <= 17; i++) {
                int from = i;
                refused(state, "day(0, 0, " + i + ", " + (17 - i) + ")", x -> x.day(0, 0, from, 17 - from), -100, 0);
            }
        }
    }

    /** Questions are no refusals, but leave all as it was, too. */
    static void questionsChangeNothing() {
        check.says("How the state is held inside the object is free");
        TurnQueue x = made(DAY);
        for (int p = 0; p < 3; p++) {
            for (int what = 0; what < 2; what++) {
                x.best(p, what);
                x.ringer(p, what);
                x.pays(p, what);
                x.waits(what);
                x.which(what);
            }
            x.calm(p);
            x.served(p);
            x.queue(59, p);
        }
        x.calm(-1);
        x.loss();
        x.which(-1);
        x.noon(5);
        x.many(0);
        x.trace();
        check.due("fault()", x.fault(), 2);
        check.same("all behind questions", seen(x), seen(made(DAY)));
    }
}
