/** Part 1, the day: promises 1 to 7. */
public final class DayTest {
    private static final Check check = new Check();

    public static void main(String[] args) {
        newObject();
        textsTaken();
        firstFaults();
        faultsOfDay();
        dayMakesAllAnew();
        refusedTextChangesNothing();
        ofPerson();
        come();
        runOut();
        bells();
        check.end();
    }

    private static void newObject() {
        TurnQueue x = new TurnQueue();
        for (int what = 0; what < 4; what++) check.due("new many(" + what + ")", x.many(what), 0);
        check.due("new bells", x.bells(), 0);
        check.due("new trace", x.trace(), 0);
        check.due("new fault", x.fault(), 0);
        check.due("new ofPerson", x.ofPerson(0, 0), TurnQueue.UNKNOWN);
        for (int k = 0; k < 4; k++) check.due("new lose(" + k + ")", x.lose(k), 0);
    }

    private static void textsTaken() {
        String one = ";p591";
        StringBuilder text = new StringBuilder("d2");
        for (int n = 1; n <= 7; n++) {
            text.append(one);
            check.due(n + " persons", Check.day(new TurnQueue(), text.toString()), n);
        }
        for (int lane = 0; lane < 3; lane++) {
            TurnQueue x = new TurnQueue();
            Check.lay(x, 3, lane, "xxd1;m123;c459yy");
            check.due("day in the midst, lane " + lane, x.day(3, lane, 2, 12), 2);
            check.due("its law", x.many(1), 1);
        }
    }

    private static void firstFaults() {
        fault("", 0);
        fault("x", 0);
        fault("D0;p001", 0);
        fault("d", 1);
        fault("d3;p001", 1);
        fault("d/;p001", 1);
        fault("d0", 2);
        fault("d0p", 2);
        fault("d0;", 3);
        fault("d0;d001", 3);
        fault("d0;p", 4);
        fault("d0;p6", 4);
        fault("d0;p601", 4);
        fault("d0;p991", 4);
        fault("d0;px01", 4);
        fault("d0;p5", 5);
        fault("d0;p5x1", 5);
        fault("d0;p5:1", 5);
        fault("d0;p59", 6);
        fault("d0;p590", 6);
        fault("d0;p59x", 6);
        fault("d0;p591x", 7);
        fault("d0;p591;", 8);
        fault("d0;p591;m", 9);
        fault("d0;p591;m00", 11);
        fault("d0;p591;m000", 11);
        String seven = "d0;p001;p001;p001;p001;p001;p001;p001";
        fault(seven + ";", 37);
        fault(seven + ";p001", 37);
        fault(seven + "x", 37);
    }

    private static void fault(String text, int place) {
        TurnQueue x = new TurnQueue();
        check.due("day of '" + text + "'", Check.day(x, text), -100 - place);
        check.due("fault() of '" + text + "'", x.fault(), 0);
        check.due("persons of '" + text + "'", x.many(0), 0);
    }

    private static void faultsOfDay() {
        TurnQueue x = new TurnQueue();
        dayAnswers(x, "no sheet, no lane", x.day(-1, 3, -1, -1), TurnQueue.UNKNOWN, 0);
        dayAnswers(x, "no sheet", x.day(4, 0, 0, 0), TurnQueue.UNKNOWN, 0);
        dayAnswers(x, "nothing, no lane", x.day(0, 3, 0, 0), TurnQueue.OUTSIDE, 0);
        dayAnswers(x, "nothing, lane below", x.day(0, -1, 0, 0), TurnQueue.OUTSIDE, 0);
        dayAnswers(x, "nothing, n below 0", x.day(0, 1, -1, -1), -11, 1);
        Check.lay(x, 0, 1, "d0;p001");
        dayAnswers(x, "another lane, n below 0", x.day(0, 0, -1, -1), -12, 2);
        dayAnswers(x, "n and i below 0", x.day(0, 1, -1, -1), -14, 4);
        dayAnswers(x, "i below 0", x.day(0, 1, -1, 0), -13, 3);
        dayAnswers(x, "i beyond, none taken", x.day(0, 1, 8, 0), -13, 3);
        dayAnswers(x, "i at the end, none taken", x.day(0, 1, 7, 0), -100, 0);
        dayAnswers(x, "one too many", x.day(0, 1, 1, 7), -13, 3);
        dayAnswers(x, "far too many", x.day(0, 1, 1, Integer.MAX_VALUE), -13, 3);
        dayAnswers(x, "far beyond", x.day(0, 1, Integer.MAX_VALUE, Integer.MAX_VALUE), -13, 3);
        dayAnswers(x, "at last", x.day(0, 1, 0, 7), 1, 0);
    }

    private static void dayAnswers(TurnQueue x, String what, int got, int want, int fault) {
        check.due("day: " + what, got, want);
        check.due("fault() of day: " + what, x.fault(), fault);
    }

    private static void dayMakesAllAnew() {
        TurnQueue x = Check.with("d1;p003;m054", 3, 9);
        x.runOut(1, 7);
        x.reading(0, 0);
        x.tell(0);
        check.due("another day", Check.day(x, "d2;c203;p101;p059"), 3);
        check.due("anew: law", x.many(1), 2);
        check.due("anew: bells", x.bells(), 0);
        check.due("anew: how many bells", x.many(2), 0);
        check.due("anew: readings", x.many(3), 0);
        check.due("anew: nobody out", x.ofPerson(1, 3), TurnQueue.NONE);
        check.due("trace stays", x.trace(), 1);
    }

    private static void refusedTextChangesNothing() {
        TurnQueue x = Check.with("d1;p003;m054", 3);
        x.runOut(1, 7);
        x.reading(0, 0);
        check.due("a text that is not taken", Check.day(x, "d2;c203;p10"), -111);
        check.due("still: persons", x.many(0), 2);
        check.due("still: law", x.many(1), 1);
        check.due("still: bells", x.bells(), 8);
        check.due("still: readings", x.many(3), 1);
        check.due("still: out", x.ofPerson(1, 3), 7);
        check.due("still: comes", x.ofPerson(0, 1), 0);
    }

    private static void ofPerson() {
        TurnQueue x = Check.with("d0;p079;m592;c301");
        int[][] rows = {{0, 7, 9, -9}, {1, 59, 2, -9}, {2, 30, 1, -9}};
        for (int p = 0; p < 3; p++) {
            for (int what = 0; what < 4; what++) {
                check.due("ofPerson(" + p + ", " + what + ")", x.ofPerson(p, what), rows[p][what]);
            }
            check.due("ofPerson what 4", x.ofPerson(p, 4), TurnQueue.OUTSIDE);
            check.due("ofPerson what -1", x.ofPerson(p, -1), TurnQueue.OUTSIDE);
        }
        check.due("ofPerson(3, 9)", x.ofPerson(3, 9), TurnQueue.UNKNOWN);
        check.due("ofPerson(-1, 0)", x.ofPerson(-1, 0), TurnQueue.UNKNOWN);
    }

    private static void come() {
        TurnQueue x = Check.with("d0;p079;m592");
        check.due("come(1, 0)", x.come(1, 0), 59);
        check.due("come(1, 60)", x.come(1, 60), TurnQueue.OUTSIDE);
        check.due("come(1, -1)", x.come(1, -1), TurnQueue.OUTSIDE);
        check.due("come(1, 59)", x.come(1, 59), 0);
        check.due("come(2, 60)", x.come(2, 60), TurnQueue.UNKNOWN);
        check.due("come(-1, 0)", x.come(-1, 0), TurnQueue.UNKNOWN);
        check.due("it comes then", x.ofPerson(1, 1), 59);
        check.due("the other as before", x.ofPerson(0, 1), 7);
        check.due("come without a day", new TurnQueue().come(0, 0), TurnQueue.UNKNOWN);
    }

    private static void runOut() {
        TurnQueue x = Check.with("d0;p079;m592");
        check.due("runOut(0, 0)", x.runOut(0, 0), TurnQueue.NONE);
        check.due("runOut(0, 59)", x.runOut(0, 59), 0);
        check.due("runOut(0, 60)", x.runOut(0, 60), TurnQueue.OUTSIDE);
        check.due("runOut(0, -1)", x.runOut(0, -1), TurnQueue.OUTSIDE);
        check.due("runOut(0, -8)", x.runOut(0, -8), TurnQueue.OUTSIDE);
        check.due("it runs out then", x.ofPerson(0, 3), 59);
        check.due("runOut(0, NONE)", x.runOut(0, TurnQueue.NONE), 59);
        check.due("runOut(0, NONE) again", x.runOut(0, TurnQueue.NONE), TurnQueue.NONE);
        check.due("it runs out no more", x.ofPerson(0, 3), TurnQueue.NONE);
        check.due("runOut(2, 60)", x.runOut(2, 60), TurnQueue.UNKNOWN);
        check.due("runOut without a day", new TurnQueue().runOut(0, 0), TurnQueue.UNKNOWN);
    }

    private static void bells() {
        TurnQueue x = new TurnQueue();
        check.due("no day, no minute", x.bell(60, true), TurnQueue.UNKNOWN);
        check.due("no day", x.bell(59, false), TurnQueue.STATE);
        Check.day(x, "d0;p079");
        check.due("bell(0, true)", x.bell(0, true), 1);
        check.due("bell(59, true)", x.bell(59, true), 1);
        check.due("bell(59, true) again", x.bell(59, true), 0);
        check.due("bell(33, false)", x.bell(33, false), 0);
        check.due("bells", x.bells(), 1L | 1L << 59);
        check.due("how many", x.many(2), 2);
        check.due("bell(0, false)", x.bell(0, false), 1);
        check.due("bell(60, false)", x.bell(60, false), TurnQueue.UNKNOWN);
        check.due("bell(-1, true)", x.bell(-1, true), TurnQueue.UNKNOWN);
        check.due("bell(64, true)", x.bell(64, true), TurnQueue.UNKNOWN);
        check.due("bells left", x.bells(), 1L << 59);
    }
}
