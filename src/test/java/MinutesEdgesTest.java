/** The edges of part 2, minute by minute: promises 8 to 10. Each test stands for a sentence of the document. */
public final class MinutesEdgesTest {
    private static final Check check = Check.byTheDocument();
    private static final int LEAST = Integer.MIN_VALUE, MOST = Integer.MAX_VALUE;

    public static void main(String[] args) {
        check.runAll(MinutesEdgesTest.class);
        check.end();
    }

    // ---- a minute, in order

    static void doneFirst() {
        check.says("the first of who is served may be done");
        // 0 is done in minute 3: 1, who comes in that minute, is served in it
        TurnQueue x = Check.with("d0;p003;p031");
        check.stands(x, 2, "0|");
        check.stands(x, 3, "1|");
        check.due("served(1)", x.served(1), 3);
        // one minute sooner it stands in the queue
        x.come(1, 2);
        check.stands(x, 2, "0|1");
        check.stands(x, 3, "1|");
    }

    static void theCounterIsFreeInThatMinute() {
        check.says("he is done as many minutes later as he WANTS (leaving the counter free in that minute)");
        for (int wants = 1; wants <= 9; wants++) {
            TurnQueue x = Check.with("d0;p10" + wants + ";p101");
            check.due("wants " + wants, x.served(1), 10 + wants);
            check.stands(x, 9 + wants, "0|1");
            check.stands(x, 10 + wants, "1|");
            check.stands(x, 11 + wants, ".|");
        }
    }

    static void whoRunsOutGoesToTheEnd() {
        check.says("who RUNS OUT of the QUEUE at this minute (not who is being served) goes to its end");
        for (int p = 1; p < 4; p++) {
            TurnQueue x = Check.with("d0;p009;p011;p011;p011");
            x.runOut(p, 5);
            check.stands(x, 4, "0|123");
            check.stands(x, 5, new String[] {"", "0|231", "0|132", "0|123"}[p]);
            check.stands(x, 6, new String[] {"", "0|231", "0|132", "0|123"}[p]);
        }
        TurnQueue alone = Check.with("d0;p009;p011");
        alone.runOut(1, 5);
        check.stands(alone, 5, "0|1");
        check.due("alone in the queue", alone.served(1), 9);
    }

    static void theFirstAndTheLastNumberRunOut() {
        check.says("who RUNS OUT of the QUEUE at this minute (not who is being served) goes to its end");
        TurnQueue x = Check.with("d0;p011;p011;p011;p009;p011;p011;p011");
        x.runOut(0, 2);
        check.stands(x, 1, "3|012456");
        check.stands(x, 2, "3|124560");
        x.runOut(0, TurnQueue.NONE);
        x.bell(1, true);
        x.runOut(6, 2);
        check.stands(x, 1, "3|654210");
        check.stands(x, 2, "3|542106");
        // all of them, by numbers
        for (int p = 0; p < 7; p++) x.runOut(p, 2);
        check.stands(x, 2, "3|012456");
    }

    static void whoIsBeingServedStays() {
        check.says("who RUNS OUT of the QUEUE at this minute (not who is being served) goes to its end");
        for (int minute : new int[] {0, 1, 4}) {
            TurnQueue x = Check.with("d0;p005;p011");
            x.runOut(0, minute);
            check.stands(x, 4, "0|1");
            check.served("0 runs out at " + minute, x, 0, 5);
        }
    }

    static void whoIsNotThereRunsNowhere() {
        check.says("who RUNS OUT of the QUEUE at this minute (not who is being served) goes to its end");
        for (int minute : new int[] {0, 2, 3, 7, 59}) {
            // 2 comes at 3 and is served from 6 on
            TurnQueue x = Check.with("d0;p005;p011;p031;p041");
            x.runOut(2, minute);
            check.served("2 runs out at " + minute, x, 0, 5, 6, 7);
        }
    }

    static void whoRunsOutAsItWouldBeServed() {
        check.says("who RUNS OUT of the QUEUE at this minute (not who is being served) goes to its end");
        // 0 is done at 5; 1 runs out ahead of being served in it, so 2 is
        TurnQueue x = Check.with("d0;p005;p011;p021");
        x.runOut(1, 5);
        check.stands(x, 4, "0|12");
        check.stands(x, 5, "2|1");
        x.runOut(1, 6);
        check.stands(x, 5, "1|2");
        check.served("one minute later it is being served", x, 0, 5, 6);
    }

    static void runsAtTheFirstAndTheLastMinute() {
        check.says("RUNS: a PERSON can be told to RUN OUT at a minute (0 .. 59; none at first).");
        TurnQueue first = Check.with("d0;p001;p001");
        first.runOut(0, 0);
        check.served("nobody stands there as minute 0 begins", first, 0, 1);
        TurnQueue last = Check.with("d0;p589;p581;p581");
        last.runOut(1, 59);
        check.stands(last, 58, "0|12");
        check.stands(last, 59, "0|21");
        check.served("out at 59", last, 58, 68, 67);
    }

    static void runsOutAheadOfThoseWhoCome() {
        check.says("In a minute, in order: the first of who is served may be done; who RUNS OUT of the QUEUE at this minute");
        TurnQueue x = Check.with("d0;p009;p011;p011;p031");
        x.runOut(1, 3);
        check.stands(x, 3, "0|213");
        x.runOut(1, 4);
        check.stands(x, 4, "0|231");
        // who comes in the minute at which it would run out does not stand there yet
        TurnQueue same = Check.with("d0;p009;p031;p031");
        same.runOut(1, 3);
        check.stands(same, 3, "0|12");
    }

    static void thoseWhoComeByNumbers() {
        check.says("those who COME in it stand behind, by numbers");
        TurnQueue x = Check.with("d0;p059;p021;p051;p019;p021;p051");
        check.stands(x, 1, "3|");
        check.stands(x, 2, "3|14");
        check.stands(x, 5, "3|14025");
        TurnQueue all = Check.with("d0;p001;p001;p001;p001;p001;p001;p001");
        check.stands(all, 0, "0|123456");
        check.served("all at 0", all, 0, 1, 2, 3, 4, 5, 6);
    }

    static void comingAtTheFirstAndTheLastMinute() {
        check.says("two digits 00 .. 59 (the minute at which it COMES)");
        TurnQueue x = Check.with("d0;p591;p001");
        check.stands(x, 0, "1|");
        check.stands(x, 58, ".|");
        check.stands(x, 59, "0|");
        check.stands(x, 60, ".|");
    }

    static void aMother() {
        check.says("but a MOTHER stands ahead of the last one who stands there as she COMES (if any does)");
        TurnQueue none = Check.with("d0;p009;m011");
        check.stands(none, 1, "0|1");
        TurnQueue one = Check.with("d0;p009;p011;m021");
        check.stands(one, 2, "0|21");
        TurnQueue two = Check.with("d0;p009;p011;p011;m021");
        check.stands(two, 2, "0|132");
        TurnQueue most = Check.with("d0;p009;p011;p011;p011;p011;p011;m021");
        check.stands(most, 2, "0|123465");
        TurnQueue nobodyAtAll = Check.with("d0;m001");
        check.stands(nobodyAtAll, 0, "0|");
    }

    static void aMotherAndThoseOfHerMinute() {
        check.says("but a MOTHER stands ahead of the last one who stands there as she COMES (if any does)");
        // those of lesser numbers stand there as she comes, those of greater ones behind
        TurnQueue x = Check.with("d0;p011;m011;p011;m011;p009");
        check.stands(x, 1, "4|1032");
        TurnQueue mothers = Check.with("d0;p009;m011;m011;m011");
        check.stands(mothers, 1, "0|231");
        // the last is who has just run out
        TurnQueue out = Check.with("d0;p009;p011;p011;m031");
        out.runOut(1, 3);
        check.stands(out, 3, "0|231");
    }

    static void aCousin() {
        check.says("a COUSIN (though he is taken for a MOTHER) right behind the first MOTHER or COUSIN who stands there, if any does, else behind all.");
        TurnQueue nobody = Check.with("d0;p009;c011");
        check.stands(nobody, 1, "0|1");
        TurnQueue none = Check.with("d0;p009;p011;p011;c021");
        check.stands(none, 2, "0|123");
        TurnQueue first = Check.with("d0;p009;m011;p021;c031");
        check.stands(first, 3, "0|132");
        TurnQueue last = Check.with("d0;p009;p011;c021;c031");
        check.stands(last, 3, "0|123");
        TurnQueue ofTwo = Check.with("d0;p009;m011;p011;p011;m021;c031");
        check.stands(ofTwo, 2, "0|1243");
        check.stands(ofTwo, 3, "0|15243");
        TurnQueue cousinFirst = Check.with("d0;p009;c011;p021;m031;c041");
        check.stands(cousinFirst, 3, "0|132");
        check.stands(cousinFirst, 4, "0|1432");
    }

    static void aCousinOfWhoIsServed() {
        check.says("right behind the first MOTHER or COUSIN who stands there, if any does");
        TurnQueue mother = Check.with("d0;m009;p011;p011;c021");
        check.stands(mother, 2, "0|123");
        TurnQueue cousin = Check.with("d0;c009;p011;p011;c021");
        check.stands(cousin, 2, "0|123");
        // 0 is done at 2 and 1, the mother, still stands there as 3 comes in that minute
        TurnQueue still = Check.with("d0;p002;m011;p011;c021");
        check.stands(still, 1, "0|12");
        check.stands(still, 2, "1|32");
    }

    static void cousinsOfOneMinute() {
        check.says("right behind the first MOTHER or COUSIN who stands there, if any does");
        TurnQueue x = Check.with("d0;p009;c011;c011;c011");
        check.stands(x, 1, "0|132");
        TurnQueue y = Check.with("d0;c011;p011;m011;c011;p009");
        check.stands(y, 1, "4|0321");
    }

    static void theBellBehindThoseWhoCame() {
        check.says("Then, if it is a BELL, the QUEUE turns (by the LAW)");
        TurnQueue x = Check.with("d0;p009;p011;p011;p031", 3);
        check.stands(x, 3, "0|321");
        x.runOut(1, 3);
        check.stands(x, 3, "0|312");
        x.runOut(1, 4);
        check.stands(x, 4, "0|321");
        x.runOut(3, 4);
        check.stands(x, 4, "0|213");
    }

    static void theBellAheadOfServing() {
        check.says("then, if nobody is being served, the first of the QUEUE is");
        TurnQueue x = Check.with("d0;p001;p001;p001", 0);
        check.served("at 0", x, 2, 1, 0);
        TurnQueue y = Check.with("d0;p003;p011;p011", 3);
        check.stands(y, 3, "2|1");
        y.bell(3, false);
        y.bell(4, true);
        check.stands(y, 3, "1|2");
        check.stands(y, 4, "2|");
    }

    static void whoIsServedDoesNotTurn() {
        check.says("Then, if it is a BELL, the QUEUE turns (by the LAW)");
        for (int law = 0; law < 3; law++) {
            TurnQueue x = Check.with("d" + law + ";p009;p011;p011", 0, 1);
            check.due("law " + law + ", at 1", x.queue(1, -1), 0);
            check.due("law " + law + ", at 8", x.queue(8, -1), 0);
        }
    }

    /** As many as told wait behind 0 as minute 1 is over; the bell is in that minute. */
    private static void turned(int law, int waiting, String want) {
        StringBuilder text = new StringBuilder("d" + law + ";p009");
        for (int p = 0; p < waiting; p++) text.append(";p011");
        check.stands(Check.with(text.toString(), 1), 1, "0|" + want);
    }

    /** All seven stand there as the bell of minute 0 rings; the first of them is served in it. */
    private static void allTurned(int law, String want) {
        check.stands(Check.with("d" + law + ";p001;p001;p001;p001;p001;p001;p001", 0), 0, want);
    }

    static void lawZero() {
        check.says("LAW 0: the whole QUEUE turns round, the last is first.");
        String[] rows = {"", "1", "21", "321", "4321", "54321", "654321"};
        for (int waiting = 0; waiting <= 6; waiting++) turned(0, waiting, rows[waiting]);
        allTurned(0, "6|543210");
    }

    static void lawOne() {
        check.says("LAW 1: its first half (of an odd number the lesser half) turns round, the others stay.");
        String[] rows = {"", "1", "12", "123", "2134", "21345", "321456"};
        for (int waiting = 0; waiting <= 6; waiting++) turned(1, waiting, rows[waiting]);
        allTurned(1, "2|103456");
    }

    static void lawTwo() {
        check.says("LAW 2: the last comes ahead of all others.");
        String[] rows = {"", "1", "21", "312", "4123", "51234", "612345"};
        for (int waiting = 0; waiting <= 6; waiting++) turned(2, waiting, rows[waiting]);
        allTurned(2, "6|012345");
    }

    static void aBellForNobody() {
        check.says("Then, if it is a BELL, the QUEUE turns (by the LAW)");
        for (int law = 0; law < 3; law++) {
            TurnQueue x = Check.with("d" + law + ";p105;p112", 0, 9, 10, 12, 15, 40, 59);
            check.served("law " + law, x, 10, 15);
            check.stands(x, 0, ".|");
            check.stands(x, 59, ".|");
        }
    }

    static void aBellInEveryMinute() {
        check.says("BELLS: a set of minutes 0 .. 59.");
        TurnQueue x = Check.with("d0;p582;p588;p587;p586");
        for (int minute = 0; minute < 60; minute++) x.bell(minute, true);
        // turned at 58 and at 59, and at 60 no more
        check.stands(x, 58, "3|210");
        check.stands(x, 59, "3|012");
        check.stands(x, 63, "3|012");
        check.served("every minute", x, 64, 66, 74, 58);
    }

    // ---- served, waits

    static void servedAtItsEdges() {
        check.says("SERVED: the minute in which a PERSON begins to be served");
        TurnQueue x = Check.with("d0;p001;p599;p599");
        check.served("at 0 and behind 59", x, 0, 59, 68);
    }

    static void servedRefused() {
        check.says("SERVED. UNKNOWN.");
        TurnQueue x = Check.with("d0;p001;p599");
        for (int p : new int[] {-1, 2, 6, 7, TurnQueue.NONE, LEAST, MOST}) check.due("served(" + p + ")", x.served(p), TurnQueue.UNKNOWN);
        for (int p = -1; p < 8; p++) check.due("no DAY, served(" + p + ")", new TurnQueue().served(p), TurnQueue.UNKNOWN);
    }

    static void theCounterShuts() {
        check.says("The counter shuts as minute 200 begins (all are SERVED by then).");
        TurnQueue x = Check.with("d0;p599;p599;p599;p599;p599;p599;p599");
        check.served("the latest that can be", x, 59, 68, 77, 86, 95, 104, 113);
        check.stands(x, 113, "6|");
        check.stands(x, 121, "6|");
        check.stands(x, 122, ".|");
        check.stands(x, 199, ".|");
        for (int p = 0; p < 7; p++) x.runOut(p, 59);
        for (int minute = 0; minute < 60; minute++) x.bell(minute, true);
        check.served("turned at 59", x, 113, 104, 95, 86, 77, 68, 59);
    }

    static void queueAtTheFirstAndTheLastMinute() {
        check.says("MINUTES 0 .. 199.");
        check.says("As a minute (0 .. 199) is over: who is being served (k -1), the k-th of the QUEUE (0 on); NONE: nobody, there are fewer.");
        TurnQueue x = Check.with("d0;p001;p001;p001");
        check.due("queue(0, -1)", x.queue(0, -1), 0);
        check.due("queue(0, 0)", x.queue(0, 0), 1);
        check.due("queue(0, 1)", x.queue(0, 1), 2);
        for (int k : new int[] {2, 3, 6, 7, 8, MOST}) check.due("queue(0, " + k + ")", x.queue(0, k), TurnQueue.NONE);
        check.due("queue(3, -1)", x.queue(3, -1), TurnQueue.NONE);
        for (int k : new int[] {-1, 0, 1, MOST}) check.due("queue(199, " + k + ")", x.queue(199, k), TurnQueue.NONE);
    }

    static void queueAsKsEdgeMoves() {
        check.says("NONE: nobody, there are fewer.");
        TurnQueue x = Check.with("d0;p001;p001;p001;p001;p001;p001;p001");
        for (int minute = 0; minute < 8; minute++) {
            for (int k = 0; k < 8; k++) {
                int want = minute + 1 + k < 7 ? minute + 1 + k : TurnQueue.NONE;
                check.due("queue(" + minute + ", " + k + ")", x.queue(minute, k), want);
            }
        }
    }

    static void queueRefused() {
        check.says("UNKNOWN: minute, k below -1.");
        TurnQueue x = Check.with("d0;p001;p001;p001");
        TurnQueue none = new TurnQueue();
        for (int minute : new int[] {-1, 200, 201, LEAST, MOST}) {
            for (int k : new int[] {-2, -1, 0, MOST}) {
                check.due("queue(" + minute + ", " + k + ")", x.queue(minute, k), TurnQueue.UNKNOWN);
                check.due("no DAY, queue(" + minute + ", " + k + ")", none.queue(minute, k), TurnQueue.UNKNOWN);
            }
        }
        for (int k : new int[] {-2, -3, TurnQueue.NONE, LEAST}) {
            check.due("queue(0, " + k + ")", x.queue(0, k), TurnQueue.UNKNOWN);
            check.due("queue(199, " + k + ")", x.queue(199, k), TurnQueue.UNKNOWN);
            check.due("no DAY, queue(0, " + k + ")", none.queue(0, k), TurnQueue.UNKNOWN);
        }
    }

    static void queueWithoutADay() {
        check.says("NONE: nobody, there are fewer.");
        TurnQueue none = new TurnQueue();
        for (int minute : new int[] {0, 59, 60, 199}) {
            for (int k : new int[] {-1, 0, 6, MOST}) check.due("queue(" + minute + ", " + k + ")", none.queue(minute, k), TurnQueue.NONE);
        }
    }

    static void toldAtAnyMinuteAnew() {
        check.says("As a minute (0 .. 199) is over: who is being served (k -1)");
        // asked back and forth: no answer hangs on the one before
        TurnQueue x = Check.with("d0;p003;p013;p023", 2);
        for (int time = 0; time < 2; time++) {
            check.stands(x, 8, "1|");
            check.stands(x, 2, "0|21");
            check.stands(x, 1, "0|1");
            check.due("served(1)", x.served(1), 6);
            check.stands(x, 5, "2|1");
        }
    }

    private static void share(String text, int upper, int lower) {
        TurnQueue x = Check.with(text);
        check.due("waits(0) of " + text, x.waits(0), upper);
        check.due("waits(1) of " + text, x.waits(1), lower);
    }

    static void sharesInLeastTerms() {
        check.says("Shares are told as upper and lower number (above 0) in least terms.");
        share("d0;p001", 0, 1);
        share("d0;p001;p101;p201;p301", 0, 1);
        share("d0;p001;p001", 1, 2);
        share("d0;p002;p001", 1, 1);
        share("d0;p003;p001", 3, 2);
        share("d0;p001;p001;p001", 1, 1);
        share("d0;p001;p001;p001;p001", 3, 2);
        share("d0;p001;p001;p101;p201", 1, 4);
        share("d0;p002;p001;p101;p201", 1, 2);
        share("d0;p004;p001;p101;p201", 1, 1);
        share("d0;p001;p001;p001;p001;p001;p001", 5, 2);
        share("d0;p002;p001;p101;p201;p301;p401", 1, 3);
        share("d0;p003;p001;p101;p201;p301;p401", 1, 2);
        share("d0;p004;p001;p101;p201;p301;p401", 2, 3);
        share("d0;p005;p001;p101;p201;p301;p401", 5, 6);
        share("d0;p007;p001;p101;p201;p301;p401;p501", 1, 1);
        share("d0;p006;p001;p101;p201;p301;p401;p501", 6, 7);
    }

    static void whatEachWaits() {
        check.says("WAITS: SERVED less the minute at which it COMES.");
        // served at 0, 9, 10: they wait 0, 9 and 5
        share("d0;p009;p001;p051", 14, 3);
        // who comes as the counter is free waits nothing, as late as it may be
        share("d0;p009;p599", 0, 1);
        TurnQueue x = Check.with("d0;p009;p001;p051", 5);
        // the bell puts 2 ahead of 1: served at 0, 10, 9
        check.due("waits(0)", x.waits(0), 14);
        x.come(2, 8);
        check.due("waits(0), 2 comes at 8", x.waits(0), 11);
    }

    static void theMostThatAllCanWait() {
        check.says("What all WAIT together, as a share of how many they are (which 0 the upper, 1 the lower number).");
        share("d0;p009;p009;p009;p009;p009;p009;p009", 27, 1);
        share("d0;p599;p599;p599;p599;p599;p599;p598", 27, 1);
        share("d0;p598;p599;p599;p599;p599;p599;p599", 183, 7);
    }

    static void waitsRefused() {
        check.says("LOST: OUTSIDE: which; STATE: there is no DAY.");
        TurnQueue x = Check.with("d0;p001");
        TurnQueue none = new TurnQueue();
        for (int which : new int[] {-1, 2, LEAST, MOST}) {
            check.due("waits(" + which + ")", x.waits(which), TurnQueue.LOST);
            check.due("no DAY, waits(" + which + ")", none.waits(which), TurnQueue.LOST);
        }
        check.due("no DAY, waits(0)", none.waits(0), TurnQueue.LOST);
        check.due("no DAY, waits(1)", none.waits(1), TurnQueue.LOST);
        check.due("LOST", TurnQueue.LOST, -9223372036854775807L - 1);
    }
}
