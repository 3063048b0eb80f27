/** The edges of part 3, when to come: promises 11 to 13. Each test stands for a sentence of the document. */
public final class ChoicesEdgesTest {
    private static final Check check = Check.byTheDocument();
    private static final int LEAST = Integer.MIN_VALUE, MOST = Integer.MAX_VALUE;

    public static void main(String[] args) {
        check.runAll(ChoicesEdgesTest.class);
        check.end();
    }

    // ---- promise 11

    private static void best(TurnQueue x, int p, int minute, int served) {
        check.due("best(" + p + ", 0)", x.best(p, 0), minute);
        check.due("best(" + p + ", 1)", x.best(p, 1), served);
    }

    static void bestIsTheSoonest() {
        check.says("BEST of a PERSON: the minute 0 .. 59 to COME by which it is SERVED the soonest, others as they are");
        best(Check.with("d0;p591"), 0, 0, 0);
        best(Check.with("d0;p591;p011"), 0, 0, 0);
        // 0 is served from 0 to 8, and 1 has the better number for none of it
        best(Check.with("d0;p009;p591"), 1, 9, 9);
        best(Check.with("d0;p591;p009"), 0, 0, 0);
    }

    static void bestOfSeveralIsTheLatest() {
        check.says("of several the latest");
        // the six others take 54 minutes: whenever 6 comes till then, it is served at 54
        best(Check.with("d0;p009;p009;p009;p009;p009;p009;p001"), 6, 54, 54);
        best(Check.with("d0;p001;p001"), 1, 1, 1);
        // coming at 1 to 5 it is last as the bell rings, at 0 first, at 6 the bell is over
        best(Check.with("d0;p009;p011;p011;p201", 5), 3, 5, 9);
    }

    static void bestByTheOnlyMinute() {
        check.says("BEST of a PERSON: the minute 0 .. 59 to COME by which it is SERVED the soonest");
        // a bell in minute 0 puts the last of it ahead
        best(Check.with("d0;p009;p591", 0), 1, 0, 0);
        best(Check.with("d2;p009;p591", 0), 1, 0, 0);
        best(Check.with("d1;p009;p591", 0), 1, 9, 9);
        // a mother who comes at 0 stands ahead of 0
        best(Check.with("d0;p009;m591"), 1, 0, 0);
        best(Check.with("d0;p009;c591"), 1, 9, 9);
    }

    static void bestLeavesOthersAsTheyAre() {
        check.says("the minute 0 .. 59 to COME by which it is SERVED the soonest, others as they are");
        // at 2 it is last as the bell rings; it runs out at 2, too, but ahead of coming
        TurnQueue x = Check.with("d0;p003;p011;p591", 2);
        x.runOut(2, 2);
        best(x, 2, 2, 3);
        check.due("1 comes as it did", x.ofPerson(1, 1), 1);
        check.due("2 comes as it did", x.ofPerson(2, 1), 59);
        check.due("2 runs out as it did", x.ofPerson(2, 3), 2);
        check.due("the bells", x.bells(), 4);
    }

    static void bestRefused() {
        check.says("BEST: the minute (what 0), when it is SERVED then (1). UNKNOWN; OUTSIDE.");
        TurnQueue x = Check.with("d0;p301;p301");
        for (int what : new int[] {-1, 2, LEAST, MOST}) {
            for (int p = 0; p < 2; p++) check.due("best(" + p + ", " + what + ")", x.best(p, what), TurnQueue.OUTSIDE);
        }
        for (int p : new int[] {-1, 2, 7, LEAST, MOST}) {
            for (int what = -1; what < 3; what++) check.due("best(" + p + ", " + what + ")", x.best(p, what), TurnQueue.UNKNOWN);
        }
        check.due("no DAY, best(0, 2)", new TurnQueue().best(0, 2), TurnQueue.UNKNOWN);
    }

    // ---- promise 12

    private static void calm(String what, TurnQueue x, int rounds, int... comes) {
        check.due(what + ": calm(-1)", x.calm(-1), rounds);
        for (int p = 0; p < comes.length; p++) check.due(what + ": calm(" + p + ")", x.calm(p), comes[p]);
        check.due(what + ": calm of one more", x.calm(comes.length), TurnQueue.UNKNOWN);
    }

    static void calmFromTheFirst() {
        check.says("(0: none would; NONE: not in 40)");
        calm("alone at 0", Check.with("d0;p009"), 0, 0);
        calm("alone at 59", Check.with("d0;p599"), 0, 59);
        calm("each as the one ahead is done", Check.with("d0;p003;p032;p051"), 0, 0, 3, 5);
        calm("one minute too soon", Check.with("d0;p003;p022;p051"), 1, 0, 3, 5);
    }

    static void calmAsItDid() {
        check.says("of several as it did, if that is one of them, else the least");
        // 0 waits nothing at 30, though it would at 0 neither; 1 waits, and the least minute is told
        calm("as it did, the least", Check.with("d0;p305;p305"), 1, 30, 0);
        // 2 waits: at 0 to 4 and at 25 it would make nobody of them wait less; 0 is the least for it
        calm("the least of two gaps", Check.with("d0;p055;p105;p105"), 1, 5, 10, 0);
        // no gap of one minute ahead of 9: the least minute is the one at which 0 is done
        calm("no gap ahead", Check.with("d0;p009;p055"), 1, 0, 9);
    }

    static void calmPersonByPerson() {
        check.says("PERSON by PERSON: each COMES at the minute by which it WAITS the least (others as they are by then)");
        // 1 goes from 1 to 2; 2 would wait for it by then, and goes to 4
        calm("one by one", Check.with("d0;p002;p012;p022"), 1, 0, 2, 4);
        // all at 0: 1 goes behind both others, who are at 0 by then, 2 only behind 0
        calm("all at 0", Check.with("d0;p009;p009;p009"), 1, 0, 18, 9);
        calm("all seven at 0", Check.with("d0;p009;p009;p009;p009;p009;p009;p009"), 1, 0, 54, 45, 36, 27, 18, 9);
    }

    static void calmBehindSeveralRounds() {
        check.says("behind how many rounds none did otherwise any more");
        // the first: 2 goes to 0, where 0 waits for it; the second: 0 goes to 0, ahead by number, 2 to 1
        calm("two", Check.with("d0;p011;p102;p112"), 2, 0, 10, 1);
    }

    static void calmBehindManyRounds() {
        check.says("CALM: round after round (40 at most)");
        check.says("CALM: behind how many rounds (p -1); the minute at which a PERSON COMES behind them (behind 40, if it is not in 40).");
        // the day with the most rounds that was ever found; the model goes through them, too
        TurnQueue x = Check.with("d1;m365;m123;m253;m283;m268;m048;m308", 8, 16);
        x.runOut(1, 17);
        calm("thirty", x, 30, 33, 30, 27, 24, 16, 8, 0);
        x.runOut(1, TurnQueue.NONE);
        check.truth("fewer, if nobody runs out", x.calm(-1) < 30);
    }

    static void calmLeavesTheDay() {
        check.says("the minute at which a PERSON COMES behind them");
        TurnQueue x = Check.with("d0;p009;p009;p009");
        check.due("calm(2)", x.calm(2), 9);
        check.due("calm(-1)", x.calm(-1), 1);
        check.due("calm(-1) once more", x.calm(-1), 1);
        for (int p = 0; p < 3; p++) check.due("it COMES as it did", x.ofPerson(p, 1), 0);
        x.come(2, 9);
        x.come(1, 18);
        check.due("calm(-1) from there", x.calm(-1), 0);
    }

    static void calmRefused() {
        check.says("UNKNOWN: PERSON, p below -1; STATE: there is no DAY (p -1).");
        TurnQueue x = Check.with("d0;p009;p009;p009");
        TurnQueue none = new TurnQueue();
        for (int p : new int[] {3, 6, 7, -2, TurnQueue.NONE, LEAST, MOST}) {
            check.due("calm(" + p + ")", x.calm(p), TurnQueue.UNKNOWN);
            check.due("no DAY, calm(" + p + ")", none.calm(p), TurnQueue.UNKNOWN);
        }
        check.due("no DAY, calm(0)", none.calm(0), TurnQueue.UNKNOWN);
        check.due("no DAY, calm(-1)", none.calm(-1), TurnQueue.STATE);
    }

    // ---- promise 13

    static void lossOfNothing() {
        check.says("LOSS, and 10000.");
        check.due("alone", Check.with("d0;p009").loss(), 10000);
        check.due("nobody waits", Check.with("d0;p001;p591").loss(), 10000);
        check.due("all as one", Check.with("d0;p005;p005;p005;p005;p005;p005;p005").loss(), 10000);
    }

    static void lossWithoutAnyBell() {
        check.says("less what they would WAIT, if without any BELL those in the QUEUE were always served by what they WANT, the least first");
        check.due("the greatest first", Check.with("d0;p009;p001").loss(), 10000 + 9 - 1);
        check.due("the bell puts the least first", Check.with("d0;p009;p001", 0).loss(), 10000);
        check.due("the bell puts the greatest first", Check.with("d0;p001;p009", 0).loss(), 10000 + 9 - 1);
        // 0 to 6 want 9 to 1 at minute 0: served by numbers they wait 9 17 24 30 35 39, the least first 1 4 8 13 19 26
        check.due("seven", Check.with("d0;p009;p008;p007;p006;p005;p004;p001").loss(), 10000 + 154 - (1 + 5 + 10 + 16 + 23 + 31));
    }

    static void lossOfLikeOnes() {
        check.says("(of like ones the least number; COMING as they do, who is being served stays)");
        // those who want the same wait the same together, whoever is first
        check.due("turned", Check.with("d0;p004;p004;p004", 0, 1, 2).loss(), 10000);
        check.due("one who wants less", Check.with("d0;p004;p004;p003").loss(), 10000 + (4 + 8) - (3 + 7));
    }

    static void lossWhereTheLeastComesLater() {
        check.says("COMING as they do, who is being served stays");
        check.due("0 is being served as 1 comes", Check.with("d0;p009;p011").loss(), 10000);
        // 1 and 2 wait behind 0: 2 wants less
        check.due("those who wait", Check.with("d0;p003;p015;p021").loss(), 10000 + (2 + 6) - (3 + 1));
        // 1 comes as 0 is done and is looked at with 2, who waits
        check.due("who comes as one is done", Check.with("d0;p003;p031;p015").loss(), 10000 + (5 + 2) - (0 + 3));
    }

    static void lossBelowNothing() {
        check.says("LOSS: what all WAIT together, less what they would WAIT");
        // served: 0 at 0, 4, 3, 2 at 5 to 7, 1 at 8; the least first: 1 at 0, 0 at 4, 2, 3, 4 at 9 to 11
        check.due("below", Check.with("d0;p005;p004;p051;p051;p051", 5).loss(), 10000 + 11 - 19);
    }

    static void lossWhereSomebodyRunsOut() {
        check.says("less what they would WAIT, if without any BELL those in the QUEUE were always served by what they WANT, the least first");
        // 1 goes behind 2 by running out: as the least first would have it
        TurnQueue x = Check.with("d0;p003;p015;p021");
        x.runOut(1, 2);
        check.due("out as 2 comes", x.loss(), 10004);
        x.runOut(1, 3);
        check.due("out behind 2", x.loss(), 10000);
    }

    static void lossRefused() {
        check.says("LOSS, and 10000. STATE: there is no DAY.");
        TurnQueue x = new TurnQueue();
        check.due("no DAY", x.loss(), TurnQueue.STATE);
        Check.day(x, "d0;p00");
        check.due("a text that is not taken", x.loss(), TurnQueue.STATE);
        Check.day(x, "d0;p001");
        check.due("a DAY", x.loss(), 10000);
    }
}
