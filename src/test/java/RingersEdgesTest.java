/** The edges of part 4, ringers, readings, noon: promises 14 to 19. Each test stands for a sentence of the document. */
public final class RingersEdgesTest {
    private static final Check check = Check.byTheDocument();
    private static final int LEAST = Integer.MIN_VALUE, MOST = Integer.MAX_VALUE;
    /** Both come at 30 with the counter free: only a bell at 30 lets 1 be first. */
    private static final String BOTH = "d0;p309;p301";

    public static void main(String[] args) {
        check.runAll(RingersEdgesTest.class);
        check.end();
    }

    // ---- promise 14

    private static void ringer(String what, TurnQueue x, int p, int move, int served) {
        check.due(what + ": ringer(" + p + ", 0)", x.ringer(p, 0), move);
        check.due(what + ": ringer(" + p + ", 1)", x.ringer(p, 1), served);
    }

    static void movedByOneToThree() {
        check.says("RINGER: of all BELLS one moved by 1 .. 3 minutes, ahead or later");
        for (int bell = 20; bell <= 40; bell++) {
            boolean near = bell != 30 && bell >= 27 && bell <= 33;
            ringer("bell " + bell, Check.with(BOTH, bell), 1, near ? 100 * bell + 30 : TurnQueue.NONE, near || bell == 30 ? 30 : 39);
        }
    }

    static void movedWithinTheMinutes() {
        check.says("(to a minute 0 .. 59 that is no BELL)");
        for (int bell = 1; bell <= 4; bell++) {
            ringer("to 0", Check.with("d0;p009;p001", bell), 1, bell <= 3 ? 100 * bell : TurnQueue.NONE, bell <= 3 ? 0 : 9);
        }
        // ahead of 0 there is no minute: 1 is the least to which it can be moved
        ringer("from 0", Check.with("d0;p009;p001", 0), 0, 1, 0);
        ringer("from 1", Check.with("d0;p019;p011", 1), 0, 100, 1);
        ringer("from 2", Check.with("d0;p029;p021", 2), 0, 200, 2);
        ringer("from 3", Check.with("d0;p039;p031", 3), 0, 300, 3);
        ringer("from 4", Check.with("d0;p049;p041", 4), 0, 401, 4);
        for (int bell = 55; bell <= 58; bell++) {
            ringer("to 59", Check.with("d0;p599;p591", bell), 1, bell >= 56 ? 100 * bell + 59 : TurnQueue.NONE, bell >= 56 ? 59 : 68);
        }
        ringer("from 59", Check.with("d0;p599;p591", 59), 0, 5956, 59);
    }

    static void notBehindTheLastMinute() {
        check.says("(to a minute 0 .. 59 that is no BELL)");
        // 1 and 2 wait from 59 on till 0 is done at 67: a bell at 60 or behind would turn them for 2
        TurnQueue x = Check.with("d0;p589;p591;p591", 57);
        ringer("59 is two later", x, 2, 5759, 67);
        x.bell(57, false);
        x.bell(59, true);
        // 59 turns them for 2 already; for 1 it is moved off, ahead
        ringer("already", x, 2, TurnQueue.NONE, 67);
        ringer("off, ahead", x, 1, 5956, 67);
        x.bell(56, true);
        x.bell(57, true);
        x.bell(58, true);
        // 59 cannot be moved, and the others find one at most in the queue
        ringer("not off, later", x, 1, TurnQueue.NONE, 68);
    }

    static void notToABell() {
        check.says("(to a minute 0 .. 59 that is no BELL)");
        ringer("bells 27 to 33", Check.with(BOTH, 27, 28, 29, 30, 31, 32, 33), 0, TurnQueue.NONE, 31);
        ringer("bells 27 to 32", Check.with(BOTH, 27, 28, 29, 30, 31, 32), 0, 3033, 30);
        ringer("bells 28 to 33", Check.with(BOTH, 28, 29, 30, 31, 32, 33), 0, 3027, 30);
        TurnQueue all = Check.with(BOTH);
        for (int minute = 0; minute < 60; minute++) all.bell(minute, true);
        ringer("all are bells", all, 0, TurnQueue.NONE, 31);
        ringer("all are bells", all, 1, TurnQueue.NONE, 30);
        all.bell(33, false);
        ringer("all but 33", all, 0, 3033, 30);
        all.bell(33, true);
        all.bell(34, false);
        ringer("all but 34", all, 0, TurnQueue.NONE, 31);
    }

    static void noneIsMoved() {
        check.says("(to a minute 0 .. 59 that is no BELL), or none: by which a PERSON is SERVED the soonest: of several none, if it is one");
        ringer("no bells", Check.with(BOTH), 0, TurnQueue.NONE, 30);
        ringer("no bells", Check.with(BOTH), 1, TurnQueue.NONE, 39);
        // any move of 20, too, serves 1 at 30, but so does none
        ringer("none is one of several", Check.with(BOTH, 20, 30), 1, TurnQueue.NONE, 30);
        ringer("alone", Check.with("d0;p309", 30), 0, TurnQueue.NONE, 30);
    }

    static void theLeastBellThenTheLeastMinute() {
        check.says("of several none, if it is one, else the least BELL, then the least minute");
        ringer("two bells", Check.with(BOTH, 28, 32), 1, 2830, 30);
        ringer("two bells, both behind", Check.with(BOTH, 31, 33), 1, 3130, 30);
        ringer("one of two", Check.with(BOTH, 26, 33), 1, 3330, 30);
        ringer("least minute", Check.with(BOTH, 30), 0, 3027, 30);
        ringer("least that is no bell", Check.with(BOTH, 27, 30), 0, 3028, 30);
        ringer("least that is no bell", Check.with(BOTH, 27, 28, 29, 30), 0, 3031, 30);
        // at 6 to 8 it turns them as at 9, and 10 is a bell; moving 10 to 7 or 8 is as good, but 9 is less
        ringer("bells 9 and 10", Check.with("d0;p009;p011;p011", 9, 10), 1, 911, 9);
    }

    static void theSoonestOfAll() {
        check.says("by which a PERSON is SERVED the soonest");
        // 21 moved to 18 or 19 finds 1 and 2 in the queue, and lets 2 be ahead
        TurnQueue x = Check.with("d0;p109;p111;p181", 21);
        ringer("while both wait", x, 2, 2118, 19);
        x.bell(9, true);
        ringer("a bell that is no help", x, 2, 2118, 19);
        x.bell(13, true);
        // 13 is the lesser bell, but moved to 16 it still finds 1 alone
        ringer("two that are no help", x, 2, 2118, 19);
    }

    static void ringerLeavesTheBells() {
        check.says("RINGER for a PERSON: 100 times the BELL and the minute to which it is moved; NONE: none (what 0); when it is SERVED then (1).");
        TurnQueue x = Check.with(BOTH, 31);
        ringer("moved", x, 1, 3130, 30);
        check.due("bells()", x.bells(), 1L << 31);
        check.due("served(1)", x.served(1), 39);
        ringer("to minute 0 of bell 0", Check.with("d0;p009;p001", 0), 1, TurnQueue.NONE, 0);
        ringer("a move of bell 0", Check.with("d0;p009;p001", 0), 0, 1, 0);
    }

    static void ringerAndPaysRefused() {
        check.says("RINGER for a PERSON: 100 times the BELL and the minute to which it is moved; NONE: none (what 0); when it is SERVED then (1). UNKNOWN; OUTSIDE.");
        check.says("PAYS: by how much (what 0), the minute (1: the least of the best; NONE: it pays nothing). UNKNOWN; OUTSIDE.");
        TurnQueue x = Check.with(BOTH, 31);
        for (int what : new int[] {-1, 2, LEAST, MOST}) {
            for (int p = 0; p < 2; p++) {
                check.due("ringer(" + p + ", " + what + ")", x.ringer(p, what), TurnQueue.OUTSIDE);
                check.due("pays(" + p + ", " + what + ")", x.pays(p, what), TurnQueue.OUTSIDE);
            }
        }
        for (int p : new int[] {-1, 2, 7, LEAST, MOST}) {
            for (int what = -1; what < 3; what++) {
                check.due("ringer(" + p + ", " + what + ")", x.ringer(p, what), TurnQueue.UNKNOWN);
                check.due("pays(" + p + ", " + what + ")", x.pays(p, what), TurnQueue.UNKNOWN);
            }
        }
        check.due("no DAY, ringer(0, 2)", new TurnQueue().ringer(0, 2), TurnQueue.UNKNOWN);
        check.due("no DAY, pays(0, 2)", new TurnQueue().pays(0, 2), TurnQueue.UNKNOWN);
    }

    // ---- promise 15

    private static void pays(String what, TurnQueue x, int p, int sooner, int minute) {
        check.due(what + ": pays(" + p + ", 0)", x.pays(p, 0), sooner);
        check.due(what + ": pays(" + p + ", 1)", x.pays(p, 1), minute);
    }

    static void paysAtTheLastMinute() {
        check.says("PAYS: by how much sooner a PERSON were SERVED, if it RAN OUT at a minute (in place of when it does), the best of 0 .. 59 (0 at least).");
        // 1 and 2 come at 58 and turn at 59: only who runs out in that minute itself is last then
        TurnQueue x = Check.with("d0;p589;p581;p581", 59);
        pays("at 59", x, 1, 1, 59);
        pays("at 59", x, 2, 0, TurnQueue.NONE);
        check.due("it does not run out", x.ofPerson(1, 3), TurnQueue.NONE);
    }

    static void paysAtTheFirstMinute() {
        check.says("(1: the least of the best; NONE: it pays nothing)");
        // 1 runs out at 2 and is behind 2, 3 so; at 0 nobody stands there to run out of
        TurnQueue x = Check.with("d0;p009;p011;p014;p015");
        x.runOut(1, 2);
        pays("at 0", x, 1, 9, 0);
        check.due("it runs out as it did", x.ofPerson(1, 3), 2);
        x.runOut(1, 0);
        pays("it does so already", x, 1, 0, TurnQueue.NONE);
    }

    static void paysTheLeastOfTheBest() {
        check.says("(1: the least of the best; NONE: it pays nothing)");
        // any of 2 to 5 makes 1 the last as the bell rings at 5; at 1 it does not stand there yet
        TurnQueue x = Check.with("d0;p009;p011;p012;p013", 5);
        pays("2 to 5", x, 1, 5, 2);
        // it runs out at 6, behind the bell, where it is last already: nothing is lost by that
        x.runOut(1, 6);
        pays("in place of 6", x, 1, 5, 2);
        x.runOut(1, 4);
        pays("in place of 4", x, 1, 0, TurnQueue.NONE);
    }

    static void paysTheBestNotTheFirst() {
        check.says("the best of 0 .. 59 (0 at least)");
        // law 2: out at 2, 1 is last and comes ahead at 3, but a second bell at 5 puts 2 or 3 ahead of it;
        // out at 4 or 5 it is last as the second bell rings, and first behind it
        TurnQueue x = Check.with("d2;p009;p011;p012;p013", 3, 5);
        check.due("served(1)", x.served(1), 14);
        pays("the later one", x, 1, 5, 4);
    }

    static void paysNothing() {
        check.says("(0 at least)");
        pays("alone", Check.with("d0;p009"), 0, 0, TurnQueue.NONE);
        TurnQueue x = Check.with("d0;p009;p011;p011");
        for (int p = 0; p < 3; p++) pays("no bell", x, p, 0, TurnQueue.NONE);
    }

    // ---- promises 16 and 17

    static void readingsEightAtMost() {
        check.says("READINGS, 8 at most, numbered by how many there are: a PERSON was SERVED at a minute.");
        TurnQueue x = Check.with(BOTH);
        for (int k = 0; k < 8; k++) {
            check.due("reading " + k, x.reading(k % 2, k % 2 == 0 ? 0 : 199), k);
            check.due("many(3)", x.many(3), k + 1);
        }
        for (int k = 0; k < 3; k++) check.due("a ninth", x.reading(0, 0), TurnQueue.FULL);
        check.due("many(3)", x.many(3), 8);
        check.due("back(1)", x.back(1), 7);
        check.due("the eighth again", x.reading(0, 0), 7);
        check.due("a ninth again", x.reading(0, 0), TurnQueue.FULL);
    }

    static void aNinthIsNotKept() {
        check.says("READINGS, 8 at most");
        TurnQueue x = Check.with(BOTH);
        for (int k = 0; k < 8; k++) x.reading(0, 30);
        int sets = x.which(-1);
        check.due("a ninth", x.reading(0, 99), TurnQueue.FULL);
        check.due("which(-1) as before", x.which(-1), sets);
        check.due("all but those with a bell at 30", sets, 1 + 59 + 59 * 58 / 2);
    }

    static void readingRefused() {
        check.says("A READING: its number. UNKNOWN: PERSON; OUTSIDE: minute (0 .. 199); FULL.");
        TurnQueue x = Check.with(BOTH);
        for (int count : new int[] {0, 8}) {
            while (x.many(3) < count) x.reading(0, 30);
            for (int p : new int[] {-1, 2, 7, LEAST, MOST}) {
                check.due("reading(" + p + ", 0)", x.reading(p, 0), TurnQueue.UNKNOWN);
                check.due("reading(" + p + ", 200)", x.reading(p, 200), TurnQueue.UNKNOWN);
            }
            for (int minute : new int[] {-1, 200, TurnQueue.NONE, LEAST, MOST}) {
                check.due("reading(1, " + minute + ")", x.reading(1, minute), TurnQueue.OUTSIDE);
            }
            check.due("many(3)", x.many(3), count);
        }
        check.due("reading(1, 199)", x.reading(1, 199), TurnQueue.FULL);
        check.due("no DAY, reading(0, 0)", new TurnQueue().reading(0, 0), TurnQueue.UNKNOWN);
        check.due("no DAY, reading(0, 200)", new TurnQueue().reading(0, 200), TurnQueue.UNKNOWN);
    }

    static void backAtItsEdges() {
        check.says("The last k READINGS (0 .. as many as there are) are taken back: how many are left. OUTSIDE.");
        for (int count = 0; count <= 8; count++) {
            TurnQueue x = Check.with(BOTH);
            for (int k = 0; k < count; k++) x.reading(0, k);
            check.due("back(0)", x.back(0), count);
            for (int k : new int[] {-1, count + 1, 9, LEAST, MOST}) check.due("back(" + k + ") of " + count, x.back(k), TurnQueue.OUTSIDE);
            check.due("many(3)", x.many(3), count);
            check.due("back(" + count + ")", x.back(count), 0);
            check.due("back(0)", x.back(0), 0);
            check.due("back(1)", x.back(1), TurnQueue.OUTSIDE);
            check.due("the next is the first", x.reading(0, 0), 0);
        }
        check.due("no DAY, back(0)", new TurnQueue().back(0), 0);
        check.due("no DAY, back(1)", new TurnQueue().back(1), TurnQueue.OUTSIDE);
        check.due("no DAY, back(-1)", new TurnQueue().back(-1), TurnQueue.OUTSIDE);
    }

    static void backTakesTheLast() {
        check.says("The last k READINGS (0 .. as many as there are) are taken back: how many are left.");
        TurnQueue x = Check.with(BOTH);
        x.reading(0, 30);
        x.reading(0, 31);
        x.reading(1, 30);
        check.due("none is so", x.which(-1), 0);
        check.due("back(2)", x.back(2), 1);
        check.due("the first is left", x.which(-1), 1 + 59 + 59 * 58 / 2);
        check.due("another", x.reading(0, 30), 1);
        check.due("as before", x.which(-1), 1 + 59 + 59 * 58 / 2);
    }

    // ---- promise 18

    private static void which(String what, TurnQueue x, int sets, int first, int second) {
        check.due(what + ": which(-1)", x.which(-1), sets);
        check.due(what + ": which(0)", x.which(0), first);
        check.due(what + ": which(1)", x.which(1), second);
    }

    static void whichOfAllSets() {
        check.says("WHICH: of all sets of 0, 1 or 2 minutes 0 .. 59 as the BELLS those by which all READINGS are so: how many");
        which("no READING", Check.with(BOTH), 1831, TurnQueue.NONE, TurnQueue.NONE);
        which("no READING, bells", Check.with(BOTH, 1, 2, 3), 1831, TurnQueue.NONE, TurnQueue.NONE);
        TurnQueue x = Check.with(BOTH);
        x.reading(1, 39);
        which("no bell at 30", x, 1 + 59 + 59 * 58 / 2, TurnQueue.NONE, TurnQueue.NONE);
        x.back(1);
        x.reading(1, 30);
        which("a bell at 30", x, 1 + 59, 30, TurnQueue.NONE);
        x.reading(1, 30);
        which("told twice", x, 1 + 59, 30, TurnQueue.NONE);
        x.reading(0, 31);
        which("of both", x, 1 + 59, 30, TurnQueue.NONE);
    }

    static void whichFindsNone() {
        check.says("WHICH: how many (q -1), the q-th minute of the first (0, 1); NONE: there is none, there are fewer.");
        TurnQueue x = Check.with(BOTH);
        x.reading(0, 0);
        which("ahead of coming", x, 0, TurnQueue.NONE, TurnQueue.NONE);
        x.back(1);
        x.reading(0, 199);
        which("at 199", x, 0, TurnQueue.NONE, TurnQueue.NONE);
        x.back(1);
        x.reading(0, 30);
        x.reading(1, 30);
        which("both at once", x, 0, TurnQueue.NONE, TurnQueue.NONE);
        x.back(1);
        x.reading(0, 31);
        which("one at two minutes", x, 0, TurnQueue.NONE, TurnQueue.NONE);
    }

    static void whichFindsNoneBehindSome() {
        check.says("NONE: there is none, there are fewer.");
        TurnQueue x = Check.with("d0;p109;p101;p209;p201");
        x.reading(1, 10);
        x.reading(3, 20);
        which("two minutes", x, 1, 10, 20);
        x.reading(0, 10);
        which("none", x, 0, TurnQueue.NONE, TurnQueue.NONE);
        x.back(2);
        which("one minute", x, 60, 10, TurnQueue.NONE);
        x.back(1);
        which("no minute", x, 1831, TurnQueue.NONE, TurnQueue.NONE);
    }

    static void whichAtTheFirstAndTheLastMinute() {
        check.says("sets of 0, 1 or 2 minutes 0 .. 59");
        TurnQueue first = Check.with("d0;p009;p001");
        first.reading(1, 0);
        which("a bell at 0", first, 60, 0, TurnQueue.NONE);
        TurnQueue last = Check.with("d0;p599;p591");
        last.reading(1, 59);
        which("a bell at 59", last, 60, 59, TurnQueue.NONE);
        TurnQueue both = Check.with("d0;p009;p001;p599;p591");
        both.reading(1, 0);
        both.reading(3, 59);
        which("bells at 0 and 59", both, 1, 0, 59);
    }

    static void whichTellsTheFirst() {
        check.says("the first (as a row that grows; fewer minutes first)");
        // 59 alone is ahead of 0 and 59
        TurnQueue fewer = Check.with("d0;p599;p591");
        fewer.reading(1, 59);
        which("fewer minutes first", fewer, 60, 59, TurnQueue.NONE);
        // two turns: one at 1 or 2 and one at 3, 4 or 5, or one at 3, 4 or 5 and one at 6
        TurnQueue two = Check.with("d0;p005;p011;p011;p031");
        two.reading(3, 5);
        two.reading(1, 6);
        which("1, 3 ahead of 1, 4 and 2, 3", two, 9, 1, 3);
        // two pairs, each with its own minute: 10 with 20
        TurnQueue pairs = Check.with("d0;p109;p101;p209;p201");
        pairs.reading(1, 10);
        pairs.reading(3, 20);
        which("10 and 20", pairs, 1, 10, 20);
    }

    static void whichRefused() {
        check.says("UNKNOWN: q is not -1 .. 1; STATE: there is no DAY.");
        TurnQueue x = Check.with(BOTH);
        TurnQueue none = new TurnQueue();
        for (int q : new int[] {-2, 2, 3, TurnQueue.NONE, LEAST, MOST}) {
            check.due("which(" + q + ")", x.which(q), TurnQueue.UNKNOWN);
            check.due("no DAY, which(" + q + ")", none.which(q), TurnQueue.UNKNOWN);
        }
        for (int q = -1; q <= 1; q++) check.due("no DAY, which(" + q + ")", none.which(q), TurnQueue.STATE);
    }

    static void whichLeavesTheBells() {
        check.says("of all sets of 0, 1 or 2 minutes 0 .. 59 as the BELLS");
        TurnQueue x = Check.with(BOTH, 30, 44);
        x.reading(1, 30);
        which("asked", x, 60, 30, TurnQueue.NONE);
        check.due("bells()", x.bells(), 1L << 30 | 1L << 44);
        check.due("served(1)", x.served(1), 30);
    }

    // ---- promise 19

    static void noonAsBits() {
        check.says("Sets are told as bits (bit k for number k).");
        for (int p = 0; p < 7; p++) {
            // all but p come too late
            StringBuilder text = new StringBuilder("d0");
            for (int q = 0; q < 7; q++) text.append(q == p ? ";p051" : ";p591");
            check.due("only " + p, Check.with(text.toString()).noon(5), 1 << p);
        }
    }

    static void noonAtItsEdges() {
        check.says("NOON: the greatest set of PERSONS who alone, in place of all, were all SERVED by a minute (0 .. 199)");
        TurnQueue x = Check.with("d0;p599;p599;p599;p599;p599;p599;p599");
        check.due("noon(0)", x.noon(0), 0);
        check.due("noon(58)", x.noon(58), 0);
        check.due("noon(59)", x.noon(59), 1);
        check.due("noon(67)", x.noon(67), 1);
        check.due("noon(68)", x.noon(68), 3);
        check.due("noon(112)", x.noon(112), 63);
        check.due("noon(113)", x.noon(113), 127);
        check.due("noon(199)", x.noon(199), 127);
        check.due("noon(0) of one who comes at 0", Check.with("d0;p001").noon(0), 1);
        check.due("noon(0) of one who comes at 1", Check.with("d0;p011").noon(0), 0);
    }

    static void noonOfSeveralTheLeast() {
        check.says("of several the least");
        check.due("either of two", Check.with("d0;p009;p009").noon(8), 1);
        check.due("only the second", Check.with("d0;p109;p009").noon(8), 2);
        TurnQueue x = Check.with("d0;p009;p001;p001");
        check.due("1 and 2", x.noon(1), 6);
        check.due("0 and 1 of three pairs", x.noon(9), 3);
        check.due("all", x.noon(10), 7);
        TurnQueue y = Check.with("d0;p009;p009;p002;p001");
        // 2 and 3 by 2; 0 and 1, 0 and 2, 0 and 3, 1 and 2, 1 and 3 by 9, and three of them by 11 only
        check.due("2 and 3", y.noon(2), 12);
        check.due("0 and 1", y.noon(9), 3);
        check.due("0, 2 and 3", y.noon(11), 13);
    }

    static void noonAlone() {
        check.says("who alone, in place of all, were all SERVED by a minute");
        // with all there 2 is served at 18, alone at 0
        check.due("the last of three", Check.with("d0;p019;p019;p009").noon(0), 4);
        // the mother would stand ahead of 0: in the set or not there at all
        check.due("without the mother", Check.with("d0;p005;m009").noon(4), 1);
        // without 2 the bell finds nobody to turn: 1 is served at 3, and with all there at 4
        TurnQueue x = Check.with("d0;p003;p019;p021", 2);
        check.due("0 and 1", x.noon(3), 3);
        check.due("all", x.noon(4), 7);
    }

    static void noonWhereSomebodyRunsOut() {
        check.says("who alone, in place of all, were all SERVED by a minute");
        TurnQueue x = Check.with("d0;p005;p019;p011");
        check.due("0 and 1", x.noon(5), 3);
        check.due("all only by 14", x.noon(13), 3);
        x.runOut(1, 2);
        // 2 is ahead of 1 so: all are served by 6
        check.due("all by 6", x.noon(6), 7);
    }

    static void noonRefused() {
        check.says("NOON, as a set. OUTSIDE; STATE: there is no DAY.");
        TurnQueue x = Check.with(BOTH);
        TurnQueue none = new TurnQueue();
        for (int minute : new int[] {-1, 200, TurnQueue.NONE, LEAST, MOST}) {
            check.due("noon(" + minute + ")", x.noon(minute), TurnQueue.OUTSIDE);
            check.due("no DAY, noon(" + minute + ")", none.noon(minute), TurnQueue.OUTSIDE);
        }
        for (int minute : new int[] {0, 59, 60, 199}) check.due("no DAY, noon(" + minute + ")", none.noon(minute), TurnQueue.STATE);
    }
}
