/** The edges of part 1, the day: promises 1 to 7. Each test stands for a sentence of the document. */
public final class DayEdgesTest {
    private static final Check check = Check.byTheDocument();
    private static final int LEAST = Integer.MIN_VALUE, MOST = Integer.MAX_VALUE;
    private static final String SEVEN = "d0;p001;m123;c595;p006;m349;c077;p298";
    /** What may stand at the two places of the head, and at the five of a person. */
    private static final String[] HEAD = {"d", "012"};
    private static final String[] PERSON = {";", "pmc", "012345", "0123456789", "123456789"};

    public static void main(String[] args) {
        check.runAll(DayEdgesTest.class);
        check.end();
    }

    // ---- promise 1

    static void aNewObjectHasNoDay() {
        check.says("No DAY (no PERSONS), SHEETS have nothing.");
        TurnQueue x = new TurnQueue();
        for (int what = 0; what < 4; what++) check.due("many(" + what + ")", x.many(what), 0);
        check.due("bells()", x.bells(), 0);
        check.due("trace()", x.trace(), 0);
        check.due("fault()", x.fault(), 0);
        for (int p = -1; p < 8; p++) {
            check.due("ofPerson(" + p + ", 0)", x.ofPerson(p, 0), TurnQueue.UNKNOWN);
            check.due("served(" + p + ")", x.served(p), TurnQueue.UNKNOWN);
        }
        check.due("bell(0, true)", x.bell(0, true), TurnQueue.STATE);
    }

    static void aNewObjectsSheetsHaveNothing() {
        check.says("SHEETS 0 .. 3 have nothing (at first)");
        TurnQueue x = new TurnQueue();
        for (int k = 0; k < 4; k++) {
            check.due(x, "put(" + k + ", 0, 1)", x.put(k, 0, 1), -11, 1);
            for (int lane = 0; lane < 3; lane++) {
                check.due(x, "cell(" + k + ", 0, " + lane + ")", x.cell(k, 0, lane), TurnQueue.LOST, 1);
                check.due(x, "day(" + k + ", " + lane + ", 0, 0)", x.day(k, lane, 0, 0), -11, 1);
            }
            check.due(x, "copy(" + k + ", 0, " + k + ", 0, 0)", x.copy(k, 0, k, 0, 0), -11, 1);
            check.due("lose(" + k + ")", x.lose(k), 0);
        }
    }

    static void objectsShareNothing() {
        check.says("No DAY (no PERSONS), SHEETS have nothing.");
        TurnQueue first = Check.with(SEVEN, 5);
        first.tell(0);
        TurnQueue second = new TurnQueue();
        check.due("persons of the second", second.many(0), 0);
        check.due("its trace()", second.trace(), 0);
        check.due("its lose(0)", second.lose(0), 0);
        check.due("persons of the first", first.many(0), 7);
        check.due("bells of the first", first.bells(), 32);
    }

    // ---- promise 2: what a text is

    private static String mayStand(int place) {
        if (place < 2) return HEAD[place];
        return place < 37 ? PERSON[(place - 2) % 5] : "";
    }

    /** The text with one code of it replaced by each that there is, in bytes and beyond. */
    private static void everyCodeAt(int place, int lane, int from, int to) {
        TurnQueue x = new TurnQueue();
        Check.lay(x, 2, lane, SEVEN);
        for (int code = from; code <= to; code++) {
            x.put(2, place, code);
            boolean may = code > 0 && mayStand(place).indexOf(code) >= 0;
            check.due("day with code " + code + " at " + place, x.day(2, lane, 0, 37), may ? 7 : -100 - place);
        }
    }

    static void theFirstFaultAtEveryPlace() {
        check.says("FIRST FAULT: the place (from 0 on) of the first code with which no TEXT goes on");
        for (int place = 0; place < 37; place++) {
            everyCodeAt(place, 0, -128, -1);
            everyCodeAt(place, 0, 0, 127);
            everyCodeAt(place, 1, 200, 420);
            everyCodeAt(place, 1, -32768, -32700);
            everyCodeAt(place, 2, 65536, 65600);
        }
    }

    static void theFirstOfSeveralFaults() {
        check.says("FIRST FAULT: the place (from 0 on) of the first code with which no TEXT goes on");
        for (int place = 0; place < 37; place++) {
            for (int later = place + 1; later < 37; later += 4) {
                TurnQueue x = new TurnQueue();
                Check.lay(x, 0, 0, SEVEN);
                x.put(0, later, 'x');
                x.put(0, place, 'x');
                check.due("x at " + place + " and " + later, x.day(0, 0, 0, 37), -100 - place);
            }
        }
    }

    static void aFaultAtTheTextsEndIsThere() {
        check.says("FIRST FAULT: the place (from 0 on) of the first code with which no TEXT goes on");
        for (int place = 0; place < 37; place++) {
            String text = SEVEN.substring(0, place) + "x";
            check.due("day of " + text, Check.day(new TurnQueue(), text), -100 - place);
        }
        check.due("a 6 at the end", Check.day(new TurnQueue(), "d0;p6"), -104);
        check.due("a 0 for what it wants", Check.day(new TurnQueue(), "d0;p000"), -106);
    }

    static void aTextThatJustEndsTooSoon() {
        check.says("how many codes there are, if it just ends too soon.");
        TurnQueue x = new TurnQueue();
        Check.lay(x, 0, 0, SEVEN);
        for (int n = 0; n <= 37; n++) {
            boolean whole = n == 7 || n == 12 || n == 17 || n == 22 || n == 27 || n == 32 || n == 37;
            check.due("the first " + n + " codes", x.day(0, 0, 0, n), whole ? (n - 2) / 5 : -100 - n);
        }
    }

    static void anEighthPerson() {
        check.says("the ; of an eighth PERSON");
        check.due("eight", Check.day(new TurnQueue(), SEVEN + ";p001"), -137);
        check.due("the ; alone", Check.day(new TurnQueue(), SEVEN + ";"), -137);
        check.due("another code there", Check.day(new TurnQueue(), SEVEN + "x"), -137);
        check.due("a fault behind it", Check.day(new TurnQueue(), SEVEN + ";x"), -137);
        check.due("a fault ahead of it", Check.day(new TurnQueue(), SEVEN.replace(";p298", ";p290") + ";p001"), -136);
        check.due("seven", Check.day(new TurnQueue(), SEVEN), 7);
        String sixty = (SEVEN + ";p001;p001;p001;p001;p001").substring(0, 60);
        check.due("a sheet's full row", Check.day(new TurnQueue(), sixty), -137);
    }

    static void twoDigitsNotAsTold() {
        check.says("of two digits that are not as told the first one");
        TurnQueue x = new TurnQueue();
        Check.lay(x, 0, 0, "d0;p001");
        for (int minute = 0; minute < 100; minute++) {
            x.put(0, 4, '0' + minute / 10);
            x.put(0, 5, '0' + minute % 10);
            check.due("minute " + minute, x.day(0, 0, 0, 7), minute < 60 ? 1 : -104);
            if (minute < 60) check.due("it comes at " + minute, x.ofPerson(0, 1), minute);
        }
    }

    static void oneCodeThatIsNoDigit() {
        check.says("FIRST FAULT: the place (from 0 on) of the first code with which no TEXT goes on");
        check.due("no digits", Check.day(new TurnQueue(), "d0;pxx1"), -104);
        check.due("the first no digit", Check.day(new TurnQueue(), "d0;px01"), -104);
        check.due("the second no digit", Check.day(new TurnQueue(), "d0;p5x1"), -105);
        check.due("the first too great, the second no digit", Check.day(new TurnQueue(), "d0;p6x1"), -104);
    }

    static void theLaw() {
        check.says("d and a digit 0 .. 2 (the LAW)");
        for (int law = 0; law < 3; law++) {
            TurnQueue x = Check.with("d" + law + ";p001");
            check.due("many(1)", x.many(1), law);
        }
        check.due("law 3", Check.day(new TurnQueue(), "d3;p001"), -101);
        check.due("what is ahead of 0", Check.day(new TurnQueue(), "d/;p001"), -101);
    }

    static void onePersonToSeven() {
        check.says("then 1 to 7 PERSONS, numbered from 0 on");
        check.due("none", Check.day(new TurnQueue(), "d0"), -102);
        for (int count = 1; count <= 7; count++) {
            TurnQueue x = new TurnQueue();
            check.due(count + " of them", Check.day(x, SEVEN.substring(0, 2 + 5 * count)), count);
            check.due("many(0)", x.many(0), count);
            for (int p = 0; p < 7; p++) {
                int comes = Integer.parseInt(SEVEN.substring(4 + 5 * p, 6 + 5 * p));
                check.due("person " + p + " of " + count, x.ofPerson(p, 1), p < count ? comes : TurnQueue.UNKNOWN);
            }
        }
    }

    static void minutesAndWants() {
        check.says("each: ; and a letter, two digits 00 .. 59 (the minute at which it COMES), a digit 1 .. 9 (what it WANTS).");
        for (int wants = 1; wants <= 9; wants++) {
            TurnQueue x = Check.with("d0;p00" + wants + ";p59" + wants);
            check.due("comes at 00", x.ofPerson(0, 1), 0);
            check.due("comes at 59", x.ofPerson(1, 1), 59);
            check.due("wants", x.ofPerson(0, 2), wants);
            check.due("wants", x.ofPerson(1, 2), wants);
        }
        check.due("wants 0", Check.day(new TurnQueue(), "d0;p000"), -106);
        check.due("comes at 60", Check.day(new TurnQueue(), "d0;p601"), -104);
    }

    static void theCodes() {
        check.says("(Codes: d 100, p 112, m 109, c 99, ; 59, digits 48 .. 57.)");
        int[] codes = {100, 48, 59, 112, 48, 48, 49, 59, 109, 53, 57, 57, 59, 99, 48, 49, 50};
        for (int lane = 0; lane < 3; lane++) {
            TurnQueue x = new TurnQueue();
            x.sheet(1, lane, codes.length);
            for (int i = 0; i < codes.length; i++) x.put(1, i, codes[i]);
            check.due("day in lane " + lane, x.day(1, lane, 0, codes.length), 3);
            check.due("comes", x.ofPerson(1, 1), 59);
            check.due("wants", x.ofPerson(1, 2), 9);
        }
        check.due("D", Check.day(new TurnQueue(), "D0;p001"), -100);
        for (String text : new String[] {"d0;P001", "d0;M001", "d0;C001"}) {
            check.due("day of " + text, Check.day(new TurnQueue(), text), -103);
        }
    }

    static void theKinds() {
        check.says("Kinds: 0 PERSON (p); 1 MOTHER (m), a PERSON; 2 COUSIN (c), a MOTHER.");
        TurnQueue x = Check.with("d0;p001;m001;c001");
        for (int p = 0; p < 3; p++) check.due("kind of " + p, x.ofPerson(p, 0), p);
        int[][] is = {{1, -12, -12}, {1, 1, -12}, {1, 1, 1}};
        for (int p = 0; p < 3; p++) {
            for (int kind = 0; kind < 3; kind++) check.due("as(" + p + ", " + kind + ")", x.as(p, kind), is[p][kind]);
        }
    }

    static void aTextThatIsTakenMakesAllAnew() {
        check.says("A TEXT that is taken makes all anew: no BELLS, no READINGS, nobody OUT.");
        TurnQueue x = Check.with("d1;p003;m054;c121", 0, 3, 59);
        for (int p = 0; p < 3; p++) x.runOut(p, 7 + p);
        x.come(0, 44);
        for (int k = 0; k < 8; k++) x.reading(k % 3, k);
        check.due("the same text once more", x.day(0, 0, 0, 17), 3);
        check.due("no BELLS", x.bells(), 0);
        check.due("no BELLS, counted", x.many(2), 0);
        check.due("no READINGS", x.many(3), 0);
        check.due("a READING is the first again", x.reading(0, 0), 0);
        for (int p = 0; p < 3; p++) check.due("nobody OUT", x.ofPerson(p, 3), TurnQueue.NONE);
        check.due("it COMES as the text tells", x.ofPerson(0, 1), 0);
    }

    static void fewerPersonsAndMoreAgain() {
        check.says("A TEXT that is taken makes all anew: no BELLS, no READINGS, nobody OUT.");
        TurnQueue x = Check.with("d2;p003;m054;c121");
        x.runOut(2, 15);
        check.due("one of them", x.day(0, 0, 0, 7), 1);
        check.due("the second is no more", x.ofPerson(1, 0), TurnQueue.UNKNOWN);
        check.due("the third is no more", x.served(2), TurnQueue.UNKNOWN);
        check.due("only the first COMES", x.queue(5, -1), TurnQueue.NONE);
        check.due("all again", x.day(0, 0, 0, 17), 3);
        check.due("nobody OUT", x.ofPerson(2, 3), TurnQueue.NONE);
        check.due("another law", Check.day(x, "d0;c599"), 1);
        check.due("the law", x.many(1), 0);
        check.due("the kind", x.ofPerson(0, 0), 2);
    }

    static void aTextThatIsTakenLeavesSheetsAndTrace() {
        check.says("A TEXT that is taken makes all anew: no BELLS, no READINGS, nobody OUT.");
        TurnQueue x = Check.with("d1;p003;m054");
        x.sheet(3, 2, 2);
        x.put(3, 1, 70001);
        x.tell(0);
        check.due("another day", x.day(0, 0, 0, 7), 1);
        check.due("a cell of the text", x.cell(0, 8, 0), 'm');
        check.due("a cell of another sheet", x.cell(3, 1, 2), 70001);
        check.due("trace()", x.trace(), 1);
    }

    static void aDayStaysWhenItsSheetChanges() {
        check.says("A DAY by a TEXT of n cells of a SHEET from i on");
        TurnQueue x = Check.with("d1;p003;m054");
        x.put(0, 6, '9');
        x.lose(0);
        check.due("it WANTS as it did", x.ofPerson(0, 2), 3);
        check.due("all are there", x.many(0), 2);
    }

    // ---- promise 2: where the text stands

    static void theCellsFromIOn() {
        check.says("A DAY by a TEXT of n cells of a SHEET from i on, taken as a row of a LANE: how many PERSONS");
        TurnQueue x = new TurnQueue();
        x.sheet(1, 0, 60);
        for (int i = 0; i < 60; i++) x.put(1, i, i < 23 ? 'x' : SEVEN.charAt(i - 23));
        check.due("the very last 37", x.day(1, 0, 23, 37), 7);
        check.due("one short", x.day(1, 0, 23, 36), -136);
        check.due("one beyond", x.day(1, 0, 23, 38), -13);
        check.due("one too soon", x.day(1, 0, 22, 37), -100);
        check.due("one too late", x.day(1, 0, 24, 36), -100);
        check.due("the first of them alone", x.day(1, 0, 23, 7), 1);
        check.due("as many as the row has", x.day(1, 0, 0, 60), -100);
    }

    static void whatIsCutByTheLane() {
        check.says("what comes to a cell of it is cut to its LANE");
        for (int lane = 0; lane < 3; lane++) {
            TurnQueue x = new TurnQueue();
            Check.lay(x, 0, lane, "d0;p001");
            x.put(0, 0, 'd' + 256);
            check.due("d and 256, lane " + lane, x.day(0, lane, 0, 7), lane == 0 ? 1 : -100);
            x.put(0, 0, 'd' - 65536);
            check.due("d less 65536, lane " + lane, x.day(0, lane, 0, 7), lane < 2 ? 1 : -100);
        }
    }

    static void noneOfTheCells() {
        check.says("3 INDEX (of cells from i on also where i is not 0 .. how many there are, if none of them is taken, too");
        TurnQueue x = new TurnQueue();
        Check.lay(x, 0, 0, "d0;p001");
        for (int i = 0; i <= 7; i++) check.due(x, "day(0, 0, " + i + ", 0)", x.day(0, 0, i, 0), -100, 0);
        for (int i : new int[] {-1, 8, LEAST, MOST}) check.due(x, "day(0, 0, " + i + ", 0)", x.day(0, 0, i, 0), -13, 3);
        x.sheet(1, 0, 0);
        check.due(x, "a row of none", x.day(1, 0, 0, 0), -100, 0);
        check.due(x, "a row of none, beyond", x.day(1, 0, 1, 0), -13, 3);
        check.due(x, "a row of none, ahead", x.day(1, 0, -1, 0), -13, 3);
        check.due(x, "a row of none, one of it", x.day(1, 0, 0, 1), -13, 3);
    }

    static void beyondTheRow() {
        check.says("UNKNOWN; OUTSIDE: lane; CAST (nothing is no CAST); NULL; SIZE: n below 0; INDEX; -100 less it.");
        TurnQueue x = new TurnQueue();
        Check.lay(x, 0, 0, "d0;p001");
        int[][] beyond = {{0, 8}, {1, 7}, {7, 1}, {8, 0}, {-1, 7}, {-1, 1}, {0, MOST}, {1, MOST}, {MOST, 1}, {MOST, MOST}, {LEAST, MOST}, {LEAST, 0}};
        for (int[] at : beyond) check.due(x, "day(0, 0, " + at[0] + ", " + at[1] + ")", x.day(0, 0, at[0], at[1]), -13, 3);
        check.due("no DAY by any of them", x.many(0), 0);
    }

    static void faultsInTheirOrder() {
        check.says("UNKNOWN; OUTSIDE: lane; CAST (nothing is no CAST); NULL; SIZE: n below 0; INDEX; -100 less it.");
        for (int k : new int[] {-1, 4, LEAST, MOST}) {
            TurnQueue x = new TurnQueue();
            check.due(x, "no sheet " + k + ", and all else", x.day(k, 3, -1, -1), TurnQueue.UNKNOWN, 0);
        }
        for (int lane : new int[] {-1, 3, LEAST, MOST}) {
            TurnQueue x = new TurnQueue();
            check.due(x, "no lane " + lane + ", nothing", x.day(0, lane, -1, -1), TurnQueue.OUTSIDE, 0);
            x.sheet(0, 1, 0);
            check.due(x, "no lane " + lane + ", a row", x.day(0, lane, -1, -1), TurnQueue.OUTSIDE, 0);
        }
        for (int has = 0; has < 3; has++) {
            for (int lane = 0; lane < 3; lane++) {
                TurnQueue x = new TurnQueue();
                check.due(x, "nothing is no CAST", x.day(0, lane, -1, -1), -11, 1);
                Check.lay(x, 0, has, "xx");
                boolean like = has == lane;
                check.due(x, "CAST ahead of SIZE", x.day(0, lane, -1, -1), like ? -14 : -12, like ? 4 : 2);
                check.due(x, "CAST ahead of INDEX", x.day(0, lane, -1, 0), like ? -13 : -12, like ? 3 : 2);
                check.due(x, "CAST ahead of the text", x.day(0, lane, 0, 2), like ? -100 : -12, like ? 0 : 2);
            }
        }
    }

    static void sizeAheadOfIndex() {
        check.says("UNKNOWN; OUTSIDE: lane; CAST (nothing is no CAST); NULL; SIZE: n below 0; INDEX; -100 less it.");
        TurnQueue x = new TurnQueue();
        Check.lay(x, 0, 2, "d0;p001");
        for (int i : new int[] {LEAST, -1, 0, 7, 8, MOST}) {
            for (int n : new int[] {-1, LEAST}) check.due(x, "day(0, 2, " + i + ", " + n + ")", x.day(0, 2, i, n), -14, 4);
        }
        check.due(x, "n 0 is no SIZE", x.day(0, 2, 0, 0), -100, 0);
    }

    static void aDayThatIsNotTakenChangesNothing() {
        check.says("They change nothing (but fault(), of a call that names FAULTS).");
        String[] texts = {"", "x", "d2;c203;p10", "d2;c203;p100", SEVEN + ";"};
        for (String text : texts) {
            TurnQueue x = Check.with("d1;p003;m054", 3);
            x.runOut(1, 7);
            x.reading(0, 0);
            check.truth("it is not taken", Check.day(x, text) <= -100);
            check.due("persons", x.many(0), 2);
            check.due("law", x.many(1), 1);
            check.due("bells", x.bells(), 8);
            check.due("readings", x.many(3), 1);
            for (int what = 0; what < 4; what++) {
                check.due("ofPerson(1, " + what + ")", x.ofPerson(1, what), new int[] {1, 5, 4, 7}[what]);
            }
        }
    }

    // ---- promises 3 to 5

    static void ofPersonAtItsEdges() {
        check.says("Of a PERSON: 0 kind, 1 the minute at which it COMES, 2 what it WANTS, 3 the minute at which it RUNS OUT (NONE). UNKNOWN; OUTSIDE.");
        TurnQueue x = Check.with("d0;p009;c591");
        int[][] rows = {{0, 0, 9, TurnQueue.NONE}, {2, 59, 1, TurnQueue.NONE}};
        for (int p = 0; p < 2; p++) {
            for (int what = 0; what < 4; what++) check.due("ofPerson(" + p + ", " + what + ")", x.ofPerson(p, what), rows[p][what]);
            for (int what : new int[] {-1, 4, LEAST, MOST}) check.due("ofPerson(" + p + ", " + what + ")", x.ofPerson(p, what), TurnQueue.OUTSIDE);
        }
        for (int p : new int[] {-1, 2, 7, LEAST, MOST}) {
            check.due("ofPerson(" + p + ", 0)", x.ofPerson(p, 0), TurnQueue.UNKNOWN);
            check.due("ofPerson(" + p + ", 4)", x.ofPerson(p, 4), TurnQueue.UNKNOWN);
        }
    }

    static void noneRunsOutAtFirst() {
        check.says("RUNS: a PERSON can be told to RUN OUT at a minute (0 .. 59; none at first).");
        TurnQueue x = Check.with(SEVEN);
        for (int p = 0; p < 7; p++) check.due("ofPerson(" + p + ", 3)", x.ofPerson(p, 3), TurnQueue.NONE);
        check.due("runOut(6, 0)", x.runOut(6, 0), TurnQueue.NONE);
        check.due("ofPerson(6, 3)", x.ofPerson(6, 3), 0);
        check.due("runOut(6, 59)", x.runOut(6, 59), 0);
        check.due("ofPerson(6, 3)", x.ofPerson(6, 3), 59);
        check.due("only it", x.ofPerson(5, 3), TurnQueue.NONE);
    }

    static void comeAtItsEdges() {
        check.says("A PERSON COMES at another minute: the one at which it did. UNKNOWN; OUTSIDE.");
        TurnQueue x = Check.with("d0;p301;m101");
        check.due("come(0, 0)", x.come(0, 0), 30);
        check.due("come(0, 59)", x.come(0, 59), 0);
        check.due("come(0, 59), as it did", x.come(0, 59), 59);
        for (int minute : new int[] {-1, 60, TurnQueue.NONE, 199, LEAST, MOST}) {
            check.due("come(0, " + minute + ")", x.come(0, minute), TurnQueue.OUTSIDE);
        }
        check.due("it COMES at", x.ofPerson(0, 1), 59);
        check.due("the other as before", x.ofPerson(1, 1), 10);
        for (int p : new int[] {-1, 2, LEAST, MOST}) {
            check.due("come(" + p + ", 0)", x.come(p, 0), TurnQueue.UNKNOWN);
            check.due("come(" + p + ", 60)", x.come(p, 60), TurnQueue.UNKNOWN);
        }
        check.due("no DAY", new TurnQueue().come(0, 60), TurnQueue.UNKNOWN);
    }

    static void runOutAtItsEdges() {
        check.says("A PERSON RUNS OUT at a minute, or not at all (NONE): when it did; NONE. UNKNOWN; OUTSIDE.");
        TurnQueue x = Check.with("d0;p301;m101");
        check.due("runOut(0, NONE)", x.runOut(0, TurnQueue.NONE), TurnQueue.NONE);
        check.due("runOut(0, 0)", x.runOut(0, 0), TurnQueue.NONE);
        check.due("runOut(0, 59)", x.runOut(0, 59), 0);
        for (int minute : new int[] {-1, -8, -10, 60, 199, LEAST, MOST}) {
            check.due("runOut(0, " + minute + ")", x.runOut(0, minute), TurnQueue.OUTSIDE);
        }
        check.due("as before", x.ofPerson(0, 3), 59);
        check.due("runOut(0, NONE)", x.runOut(0, TurnQueue.NONE), 59);
        check.due("not at all", x.ofPerson(0, 3), TurnQueue.NONE);
        for (int p : new int[] {-1, 2, LEAST, MOST}) {
            check.due("runOut(" + p + ", 0)", x.runOut(p, 0), TurnQueue.UNKNOWN);
            check.due("runOut(" + p + ", 60)", x.runOut(p, 60), TurnQueue.UNKNOWN);
            check.due("runOut(" + p + ", NONE)", x.runOut(p, TurnQueue.NONE), TurnQueue.UNKNOWN);
        }
        check.due("no DAY", new TurnQueue().runOut(0, TurnQueue.NONE), TurnQueue.UNKNOWN);
    }

    // ---- promises 6 and 7

    static void bellAtItsEdges() {
        check.says("A minute becomes a BELL (true), or none: 1; 0: it was so.");
        TurnQueue x = Check.with("d0;p301");
        for (int minute : new int[] {0, 31, 32, 59}) {
            check.due("bell(" + minute + ", false)", x.bell(minute, false), 0);
            check.due("bell(" + minute + ", true)", x.bell(minute, true), 1);
            check.due("bell(" + minute + ", true) again", x.bell(minute, true), 0);
            check.due("bells()", x.bells(), 1L << minute);
            check.due("bell(" + minute + ", false)", x.bell(minute, false), 1);
            check.due("bells()", x.bells(), 0);
        }
    }

    static void bellRefused() {
        check.says("UNKNOWN: minute (0 .. 59); STATE: there is no DAY.");
        TurnQueue x = Check.with("d0;p301", 4);
        TurnQueue none = new TurnQueue();
        for (int minute : new int[] {-1, 60, 61, 63, 64, 68, -60, LEAST, MOST}) {
            for (boolean is : new boolean[] {true, false}) {
                check.due("bell(" + minute + ", " + is + ")", x.bell(minute, is), TurnQueue.UNKNOWN);
                check.due("no DAY, bell(" + minute + ", " + is + ")", none.bell(minute, is), TurnQueue.UNKNOWN);
            }
        }
        for (int minute : new int[] {0, 59}) {
            check.due("no DAY, bell(" + minute + ", true)", none.bell(minute, true), TurnQueue.STATE);
            check.due("no DAY, bell(" + minute + ", false)", none.bell(minute, false), TurnQueue.STATE);
        }
        check.due("bells() as before", x.bells(), 16);
        check.due("no DAY, bells()", none.bells(), 0);
    }

    static void allBells() {
        check.says("BELLS: a set of minutes 0 .. 59.");
        TurnQueue x = Check.with("d0;p301");
        for (int minute = 0; minute < 60; minute++) {
            check.due("bell(" + minute + ", true)", x.bell(minute, true), 1);
            check.due("many(2)", x.many(2), minute + 1);
        }
        check.due("all of them", x.bells(), 1152921504606846975L);
        check.due("bell(0, false)", x.bell(0, false), 1);
        check.due("all but 0", x.bells(), 1152921504606846974L);
    }

    static void bellsAsBits() {
        check.says("BELLS, as a set (of a long).");
        check.says("Sets are told as bits (bit k for number k).");
        check.due("none", Check.with("d0;p301").bells(), 0);
        check.due("0", Check.with("d0;p301", 0).bells(), 1);
        check.due("30, 31, 32", Check.with("d0;p301", 30, 31, 32).bells(), 7516192768L);
        check.due("59", Check.with("d0;p301", 59).bells(), 576460752303423488L);
    }
}
