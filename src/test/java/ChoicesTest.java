/** Part 3, when to come: promises 11 to 13. The answers are worked out by hand. */
public final class ChoicesTest {
    private static final Check check = new Check();

    public static void main(String[] args) {
        best();
        bestKeepsTheRest();
        calm();
        calmTakesTheLeast();
        calmKeepsTheDay();
        loss();
        refusals();
        check.end();
    }

    private static void best(TurnQueue x, int p, int minute, int served) {
        check.due("best(" + p + ", 0)", x.best(p, 0), minute);
        check.due("best(" + p + ", 1)", x.best(p, 1), served);
    }

    private static void best() {
        // PERSON 1 is served at 3 whether it comes at 0, 1, 2 or 3: the latest is told
        best(Check.with("d0;p003;p501"), 1, 3, 3);
        best(Check.with("d0;p003;p501"), 0, 0, 0);
        // with a bell at 0 the last of those who come at 0 is served first
        best(Check.with("d0;p003;p501", 0), 1, 0, 0);
        best(Check.with("d0;p501"), 0, 0, 0);
        // the counter is taken till 9; of the three who wait the last is ahead behind the bell
        best(Check.with("d0;p009;p011;p011;p201", 5), 3, 5, 9);
        // a bell at 59 is no help to somebody who may come at 0
        best(Check.with("d0;p591;p591", 59), 0, 0, 0);
        // the last comes ahead: at 5, as at 0 only 0 stands there
        best(Check.with("d2;p009;p011;p011;p201", 5), 3, 5, 9);
        // a half does not turn three
        best(Check.with("d1;p009;p011;p011;p201", 5), 3, 0, 9);
        // a mother who comes at 0 stands ahead of 0, who stands there as she comes
        best(Check.with("d0;p009;p011;m201"), 2, 0, 0);
        // ahead of all: others come first at 10
        best(Check.with("d0;p102;p102;p102"), 2, 0, 0);
    }

    private static void bestKeepsTheRest() {
        TurnQueue x = Check.with("d0;p003;p501", 4);
        x.runOut(1, 2);
        x.best(1, 0);
        check.due("comes as before", x.ofPerson(1, 1), 50);
        check.due("runs out as before", x.ofPerson(1, 3), 2);
        check.due("bells as before", x.bells(), 16);
        // 2 comes at 1: whoever runs out at 1 is ahead of it all the same, at 2 behind it
        TurnQueue out = Check.with("d0;p003;p501;p011");
        out.runOut(1, 1);
        best(out, 1, 1, 3);
        out.runOut(1, 2);
        best(out, 1, 4, 4);
    }

    private static void calm() {
        TurnQueue alone = Check.with("d0;p303");
        check.due("one who never waits", alone.calm(-1), 0);
        check.due("it comes as it did", alone.calm(0), 30);
        // 0 is served at once and stays; 1 would wait 3, and the least minute to wait 0 is 3
        TurnQueue two = Check.with("d0;p003;p002");
        check.due("two", two.calm(-1), 1);
        check.due("two: 0", two.calm(0), 0);
        check.due("two: 1", two.calm(1), 3);
        // a bell at 0 serves 1 first: 0 waits 2 and goes to minute 2
        TurnQueue turned = Check.with("d0;p003;p002", 0);
        check.due("turned", turned.calm(-1), 1);
        check.due("turned: 0", turned.calm(0), 2);
        check.due("turned: 1", turned.calm(1), 0);
    }

    private static void calmTakesTheLeast() {
        // 1 waits 1 at minute 11; minute 0 is the least of those without a wait
        TurnQueue x = Check.with("d0;p102;p112");
        check.due("least", x.calm(-1), 1);
        check.due("least: 0", x.calm(0), 10);
        check.due("least: 1", x.calm(1), 0);
        // 1 goes to minute 0, and so makes 2 wait, who stands at 1: it moves in the same round
        TurnQueue y = Check.with("d0;p102;p112;p011");
        check.due("in a row", y.calm(-1), 1);
        check.due("in a row: 1", y.calm(1), 0);
        check.due("in a row: 2", y.calm(2), 2);
        // 2 goes to minute 0, so that 0 waits; a second round: 0 goes ahead of it, and 2 to minute 1
        TurnQueue z = Check.with("d0;p011;p102;p112");
        check.due("back", z.calm(-1), 2);
        check.due("back: 0", z.calm(0), 0);
        check.due("back: 2", z.calm(2), 1);
    }

    private static void calmKeepsTheDay() {
        TurnQueue x = Check.with("d0;p003;p002");
        x.calm(-1);
        check.due("comes as before", x.ofPerson(1, 1), 0);
        check.due("served as before", x.served(1), 3);
    }

    private static void loss() {
        check.due("none", Check.with("d0;p303").loss(), 10000);
        check.due("the least first", Check.with("d0;p009;p001;p001").loss(), 10000 + 9 + 10 - 1 - 2);
        check.due("who is served stays", Check.with("d0;p009;p011;p011").loss(), 10000);
        // the bell puts 2 ahead of 1, who wants more
        TurnQueue x = Check.with("d0;p002;p015;p014", 1);
        check.due("the bell helps", x.loss(), 10000);
        x.bell(1, false);
        check.due("1 ahead of 2", x.loss(), 10001);
        x.come(1, 0);
        x.come(2, 0);
        check.due("both at 0", x.loss(), 10001);
        x.runOut(1, 1);
        check.due("1 runs out", x.loss(), 10000);
        // served: 1 at 0, 4 at 1, 0 at 2, 2 at 11, 3 at 12; the least first: 1, 2, 3, 4 at 0 to 3, 0 at 4
        check.due("much", Check.with("d2;p009;p001;p011;p011;p011", 0, 1).loss(), 10000 + 23 - 7);
        // served: 0 at 0, 4, 3, 2 at 5 to 7, 1 at 8; the least first: 1 at 0, 0 at 4, 2, 3, 4 at 9 to 11
        check.due("less than none", Check.with("d0;p005;p004;p051;p051;p051", 5).loss(), 10000 + 11 - 19);
        check.due("loss without a day", new TurnQueue().loss(), TurnQueue.STATE);
    }

    private static void refusals() {
        TurnQueue x = Check.with("d0;p002");
        check.due("best(1, 2)", x.best(1, 2), TurnQueue.UNKNOWN);
        check.due("best(-1, 0)", x.best(-1, 0), TurnQueue.UNKNOWN);
        check.due("best(0, 2)", x.best(0, 2), TurnQueue.OUTSIDE);
        check.due("best(0, -1)", x.best(0, -1), TurnQueue.OUTSIDE);
        check.due("calm(1)", x.calm(1), TurnQueue.UNKNOWN);
        check.due("calm(-2)", x.calm(-2), TurnQueue.UNKNOWN);
        TurnQueue none = new TurnQueue();
        check.due("no day: calm(-1)", none.calm(-1), TurnQueue.STATE);
        check.due("no day: calm(0)", none.calm(0), TurnQueue.UNKNOWN);
        check.due("no day: calm(-2)", none.calm(-2), TurnQueue.UNKNOWN);
        check.due("no day: best", none.best(0, 0), TurnQueue.UNKNOWN);
    }
}
