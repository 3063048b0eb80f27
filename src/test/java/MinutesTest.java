/** Part 2, minute by minute: promises 8 to 10. The answers are worked out by hand. */
public final class MinutesTest {
    private static final Check check = new Check();

    public static void main(String[] args) {
        inOrder();
        wholeTurns();
        halfTurns();
        lastComesAhead();
        bellBeforeServing();
        mothers();
        cousins();
        runningOut();
        theEnd();
        waits();
        refusals();
        check.end();
    }

    private static void inOrder() {
        TurnQueue x = Check.with("d0;p102;p003;p024;p021");
        check.served("in order", x, 10, 0, 3, 7);
        check.stands(x, 0, "1|");
        check.stands(x, 2, "1|23");
        check.stands(x, 3, "2|3");
        check.stands(x, 6, "2|3");
        check.stands(x, 7, "3|");
        check.stands(x, 8, ".|");
        check.stands(x, 9, ".|");
        check.stands(x, 11, "0|");
        check.stands(x, 12, ".|");
    }

    private static void wholeTurns() {
        TurnQueue x = Check.with("d0;p009;p011;p021;p031;p041", 4);
        check.stands(x, 3, "0|123");
        check.stands(x, 4, "0|4321");
        check.served("whole", x, 0, 12, 11, 10, 9);
        x.bell(5, true);
        check.stands(x, 5, "0|1234");
        check.served("whole, twice", x, 0, 9, 10, 11, 12);
    }

    private static void halfTurns() {
        TurnQueue x = Check.with("d1;p009;p011;p011;p011;p011;p011;p011", 1, 2);
        x.bell(2, false);
        check.stands(x, 1, "0|321456");
        TurnQueue odd = Check.with("d1;p009;p011;p011;p011;p011;p011", 1);
        check.stands(odd, 1, "0|21345");
        TurnQueue three = Check.with("d1;p009;p011;p011;p011", 1);
        check.stands(three, 1, "0|123");
    }

    private static void lastComesAhead() {
        TurnQueue x = Check.with("d2;p009;p011;p011;p011;p011", 1, 3);
        check.stands(x, 1, "0|4123");
        check.stands(x, 2, "0|4123");
        check.stands(x, 3, "0|3412");
        check.served("last ahead", x, 0, 11, 12, 9, 10);
    }

    private static void bellBeforeServing() {
        TurnQueue x = Check.with("d0;p003;p002;p001", 0, 2, 3);
        check.stands(x, 0, "2|10");
        check.stands(x, 1, "1|0");
        check.stands(x, 2, "1|0");
        check.served("bell before serving", x, 3, 1, 0);
    }

    private static void mothers() {
        TurnQueue x = Check.with("d0;p009;m011;p021;m031;m031");
        check.stands(x, 1, "0|1");
        check.stands(x, 2, "0|12");
        check.stands(x, 3, "0|1342");
        TurnQueue first = Check.with("d0;p001;m001");
        check.stands(first, 0, "1|0");
    }

    private static void cousins() {
        TurnQueue none = Check.with("d0;p009;p011;c021");
        check.stands(none, 2, "0|12");
        TurnQueue x = Check.with("d0;p009;p011;m021;p031;c041;c051;m061");
        check.stands(x, 3, "0|213");
        check.stands(x, 4, "0|2413");
        check.stands(x, 5, "0|25413");
        check.stands(x, 6, "0|254163");
        TurnQueue behindCousin = Check.with("d0;p009;p011;c021;p031;c041");
        check.stands(behindCousin, 4, "0|1243");
        TurnQueue served = Check.with("d0;m009;p011;p011;c021");
        check.stands(served, 2, "0|123");
    }

    private static void runningOut() {
        TurnQueue x = Check.with("d0;p005;p011;p011;p011;p031");
        x.runOut(1, 3);
        check.stands(x, 2, "0|123");
        check.stands(x, 3, "0|2314");
        x.runOut(3, 3);
        check.stands(x, 3, "0|2134");
        x.runOut(1, 5);
        check.stands(x, 5, "2|341");
        x.runOut(3, TurnQueue.NONE);
        x.runOut(1, TurnQueue.NONE);
        x.runOut(0, 2);
        check.stands(x, 2, "0|123");
        x.runOut(4, 3);
        check.stands(x, 3, "0|1234");
        x.runOut(4, 2);
        check.stands(x, 3, "0|1234");
        x.runOut(1, 7);
        check.stands(x, 7, "3|4");
        x.bell(4, true);
        x.runOut(1, 4);
        check.stands(x, 4, "0|1432");
        TurnQueue first = Check.with("d0;p021;p009;p022");
        first.runOut(0, 3);
        check.stands(first, 2, "1|02");
        check.stands(first, 3, "1|20");
        // those who run out at once go by their numbers, whoever stood ahead
        TurnQueue two = Check.with("d0;p009;p011;p011;p011", 1);
        two.runOut(1, 2);
        two.runOut(3, 2);
        check.stands(two, 1, "0|321");
        check.stands(two, 2, "0|213");
    }

    private static void theEnd() {
        TurnQueue x = Check.with("d0;p599;p599;p599;p599;p599;p599;p599", 59);
        check.served("the end", x, 113, 104, 95, 86, 77, 68, 59);
        check.stands(x, 121, "0|");
        check.stands(x, 122, ".|");
        check.stands(x, 199, ".|");
    }

    private static void waits() {
        TurnQueue x = Check.with("d0;p002;p001;p001");
        check.due("5 of 3", x.waits(0), 5);
        check.due("5 of 3, lower", x.waits(1), 3);
        x.come(2, 1);
        check.due("4 of 3", x.waits(0), 4);
        x.come(1, 20);
        x.come(2, 30);
        check.due("none of 3", x.waits(0), 0);
        check.due("none of 3, lower", x.waits(1), 1);
        TurnQueue six = Check.with("d0;p001;p001;p001;p201;p301;p401");
        check.due("3 of 6", six.waits(0), 1);
        check.due("3 of 6, lower", six.waits(1), 2);
        TurnQueue four = Check.with("d0;p001;p001;p001;p001");
        check.due("6 of 4", four.waits(0), 3);
        check.due("6 of 4, lower", four.waits(1), 2);
        check.due("waits(2)", four.waits(2), TurnQueue.LOST);
        check.due("waits(-1)", four.waits(-1), TurnQueue.LOST);
        check.due("waits without a day", new TurnQueue().waits(0), TurnQueue.LOST);
    }

    private static void refusals() {
        TurnQueue x = Check.with("d0;p002");
        check.due("queue(-1, 0)", x.queue(-1, 0), TurnQueue.UNKNOWN);
        check.due("queue(200, 0)", x.queue(200, 0), TurnQueue.UNKNOWN);
        check.due("queue(0, -2)", x.queue(0, -2), TurnQueue.UNKNOWN);
        check.due("queue(0, far)", x.queue(0, Integer.MAX_VALUE), TurnQueue.NONE);
        check.due("served(-1)", x.served(-1), TurnQueue.UNKNOWN);
        TurnQueue none = new TurnQueue();
        check.due("no day: queue", none.queue(199, -1), TurnQueue.NONE);
        check.due("no day: queue(0, 0)", none.queue(0, 0), TurnQueue.NONE);
        check.due("no day: queue(200, 0)", none.queue(200, 0), TurnQueue.UNKNOWN);
        check.due("no day: served", none.served(0), TurnQueue.UNKNOWN);
    }
}
