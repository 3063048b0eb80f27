/** Part 4, ringers, readings, noon: promises 14 to 19. The answers are worked out by hand. */
public final class RingersTest {
    private static final Check check = new Check();

    public static void main(String[] args) {
        ringer();
        ringerAtTheEdges();
        ringerTakesTheLeast();
        pays();
        readings();
        which();
        whichGoesByTheDay();
        noon();
        refusals();
        check.end();
    }

    private static void ringer(String what, TurnQueue x, int p, int move, int served) {
        check.due(what + ": ringer(" + p + ", 0)", x.ringer(p, 0), move);
        check.due(what + ": ringer(" + p + ", 1)", x.ringer(p, 1), served);
    }

    private static void ringer() {
        // 1, 2 stand behind 0 till 9, and the bell at 20 finds nobody: no move reaches them
        TurnQueue far = Check.with("d0;p009;p011;p021", 20);
        ringer("far", far, 2, TurnQueue.NONE, 10);
        // at 11 both are served; moved to 8 or 9 the bell finds both
        TurnQueue near = Check.with("d0;p009;p011;p021", 11);
        ringer("near", near, 2, 1108, 9);
        ringer("near", near, 1, TurnQueue.NONE, 9);
        ringer("near", near, 0, TurnQueue.NONE, 0);
        check.due("near: bells stay", near.bells(), 1 << 11);
        TurnQueue none = Check.with("d0;p009;p011;p021");
        ringer("no bell", none, 2, TurnQueue.NONE, 10);
        // 13 is 4 minutes from 9
        TurnQueue beyond = Check.with("d0;p009;p011;p021", 13);
        ringer("beyond", beyond, 2, TurnQueue.NONE, 10);
    }

    private static void ringerAtTheEdges() {
        TurnQueue first = Check.with("d0;p001;p003", 1);
        ringer("to 0", first, 1, 100, 0);
        ringer("to 0", first, 0, TurnQueue.NONE, 0);
        TurnQueue from = Check.with("d0;p001;p003", 0);
        ringer("from 0", from, 0, 1, 0);
        ringer("from 0", from, 1, TurnQueue.NONE, 0);
        TurnQueue last = Check.with("d0;p599;p599", 56);
        ringer("to 59", last, 1, 5659, 59);
        TurnQueue off = Check.with("d0;p599;p599", 59);
        ringer("from 59", off, 0, 5956, 59);
        ringer("from 59", off, 1, TurnQueue.NONE, 59);
    }

    private static void ringerTakesTheLeast() {
        // 3 and 4 turn back each other; without one of them at 1 to 8, an odd number of turns
        TurnQueue x = Check.with("d0;p009;p011;p011", 3, 4);
        ringer("least bell, least minute", x, 2, 300, 9);
        // 9 turns them and cannot be moved off to 10, 11 or 12, which are bells: 10 is moved, to turn them back
        TurnQueue y = Check.with("d0;p009;p011;p011", 9, 10, 11, 12);
        ringer("already", y, 1, 1007, 9);
        ringer("already", y, 2, TurnQueue.NONE, 9);
    }

    private static void pays(String what, TurnQueue x, int p, int sooner, int minute) {
        check.due(what + ": pays(" + p + ", 0)", x.pays(p, 0), sooner);
        check.due(what + ": pays(" + p + ", 1)", x.pays(p, 1), minute);
    }

    private static void pays() {
        // with a bell at 5 the last is first: who runs out at 2 to 5 is last then
        TurnQueue x = Check.with("d0;p009;p011;p012;p013", 5);
        pays("bell", x, 1, 5, 2);
        pays("bell", x, 2, 3, 2);
        pays("bell", x, 3, 0, TurnQueue.NONE);
        pays("bell", x, 0, 0, TurnQueue.NONE);
        check.due("it runs out as before", x.ofPerson(1, 3), TurnQueue.NONE);
        // running out at 6 it is last behind the bell, so any other minute pays
        x.runOut(3, 6);
        pays("in place of 6", x, 3, 3, 0);
        x.bell(5, false);
        x.runOut(3, TurnQueue.NONE);
        pays("no bell", x, 1, 0, TurnQueue.NONE);
    }

    private static void readings() {
        TurnQueue x = Check.with("d0;p009;p011");
        for (int k = 0; k < 8; k++) check.due("reading " + k, x.reading(k % 2, k * 28), k);
        check.due("FULL", x.reading(0, 199), TurnQueue.FULL);
        check.due("UNKNOWN ahead of FULL", x.reading(2, 0), TurnQueue.UNKNOWN);
        check.due("OUTSIDE ahead of FULL", x.reading(0, 200), TurnQueue.OUTSIDE);
        check.due("OUTSIDE below", x.reading(0, -1), TurnQueue.OUTSIDE);
        check.due("many(3)", x.many(3), 8);
        check.due("back(9)", x.back(9), TurnQueue.OUTSIDE);
        check.due("back(-1)", x.back(-1), TurnQueue.OUTSIDE);
        check.due("back(0)", x.back(0), 8);
        check.due("back(3)", x.back(3), 5);
        check.due("back(6)", x.back(6), TurnQueue.OUTSIDE);
        check.due("the next", x.reading(0, 199), 5);
        check.due("back(6)", x.back(6), 0);
        check.due("many(3)", x.many(3), 0);
        check.due("the first again", x.reading(0, 0), 0);
    }

    private static void which(String what, TurnQueue x, int sets, int first, int second) {
        check.due(what + ": which(-1)", x.which(-1), sets);
        check.due(what + ": which(0)", x.which(0), first);
        check.due(what + ": which(1)", x.which(1), second);
    }

    private static void which() {
        // 2 is first at 9, if there was one turn in the minutes 1 to 9: 9 lone bells, 9 times 51 pairs
        TurnQueue x = Check.with("d0;p009;p011;p011");
        which("no reading", x, 1 + 60 + 1770, TurnQueue.NONE, TurnQueue.NONE);
        x.reading(2, 9);
        which("2 at 9", x, 9 + 9 * 51, 1, TurnQueue.NONE);
        x.reading(1, 10);
        which("and 1 at 10", x, 9 + 9 * 51, 1, TurnQueue.NONE);
        x.reading(0, 0);
        which("and 0 at 0", x, 9 + 9 * 51, 1, TurnQueue.NONE);
        x.reading(0, 1);
        which("and 0 at 1", x, 0, TurnQueue.NONE, TurnQueue.NONE);
        x.back(4);
        // no turn, or two of them: none, 51 lone ones, 36 pairs within, 1275 without
        x.reading(1, 9);
        which("1 at 9", x, 1 + 51 + 36 + 51 * 50 / 2, TurnQueue.NONE, TurnQueue.NONE);
        // a turn at 1 or 2 and one at 3, 4 or 5, or one at 3, 4 or 5 and one at 6
        TurnQueue y = Check.with("d0;p005;p011;p011;p031");
        y.reading(3, 5);
        y.reading(1, 6);
        which("two turns", y, 9, 1, 3);
        // a turn at 6, alone or with one at 0 or from 7 on
        y.back(2);
        y.reading(1, 5);
        y.reading(3, 6);
        which("one turn", y, 1 + 54, 6, TurnQueue.NONE);
    }

    private static void whichGoesByTheDay() {
        TurnQueue x = Check.with("d0;p009;p011;p011", 5);
        x.reading(2, 9);
        which("other bells are nothing", x, 9 + 9 * 51, 1, TurnQueue.NONE);
        check.due("bells stay", x.bells(), 32);
        x.come(2, 4);
        which("by when they come", x, 6 + 6 * 54, 4, TurnQueue.NONE);
        x.runOut(1, 6);
        // 2 is ahead by that, unless there is just one turn from 6 to 9
        which("by who runs out", x, 1 + 56 + 56 * 55 / 2 + 6, TurnQueue.NONE, TurnQueue.NONE);
    }

    private static void noon() {
        TurnQueue x = Check.with("d0;p005;p012;p013;p101");
        check.due("noon(0)", x.noon(0), 1);
        check.due("noon(1)", x.noon(1), 1);
        check.due("noon(3)", x.noon(3), 6);
        check.due("noon(5)", x.noon(5), 3);
        check.due("noon(7)", x.noon(7), 7);
        check.due("noon(9)", x.noon(9), 7);
        check.due("noon(10)", x.noon(10), 15);
        check.due("noon(199)", x.noon(199), 15);
        TurnQueue late = Check.with("d0;p105;p012");
        check.due("nobody by then", late.noon(0), 0);
        check.due("only 1 by then", late.noon(1), 2);
        check.due("both", late.noon(10), 3);
        // alone, 1 does not wait for 0; with the bell 2 is ahead of 1
        TurnQueue bell = Check.with("d0;p009;p011;p019", 1);
        check.due("bell: noon(1)", bell.noon(1), 1);
        check.due("bell: noon(10)", bell.noon(10), 3);
        check.due("bell: noon(9)", bell.noon(9), 3);
        check.due("bell: noon(18)", bell.noon(18), 7);
    }

    private static void refusals() {
        TurnQueue x = Check.with("d0;p002");
        check.due("ringer(1, 2)", x.ringer(1, 2), TurnQueue.UNKNOWN);
        check.due("ringer(0, 2)", x.ringer(0, 2), TurnQueue.OUTSIDE);
        check.due("ringer(0, -1)", x.ringer(0, -1), TurnQueue.OUTSIDE);
        check.due("pays(1, 2)", x.pays(1, 2), TurnQueue.UNKNOWN);
        check.due("pays(0, 2)", x.pays(0, 2), TurnQueue.OUTSIDE);
        check.due("pays(0, -1)", x.pays(0, -1), TurnQueue.OUTSIDE);
        check.due("which(2)", x.which(2), TurnQueue.UNKNOWN);
        check.due("which(-2)", x.which(-2), TurnQueue.UNKNOWN);
        check.due("noon(-1)", x.noon(-1), TurnQueue.OUTSIDE);
        check.due("noon(200)", x.noon(200), TurnQueue.OUTSIDE);
        TurnQueue none = new TurnQueue();
        check.due("no day: ringer", none.ringer(0, 0), TurnQueue.UNKNOWN);
        check.due("no day: pays", none.pays(0, 0), TurnQueue.UNKNOWN);
        check.due("no day: reading", none.reading(0, 0), TurnQueue.UNKNOWN);
        check.due("no day: back(0)", none.back(0), 0);
        check.due("no day: back(1)", none.back(1), TurnQueue.OUTSIDE);
        check.due("no day: which(2)", none.which(2), TurnQueue.UNKNOWN);
        check.due("no day: which(-1)", none.which(-1), TurnQueue.STATE);
        check.due("no day: noon(200)", none.noon(200), TurnQueue.OUTSIDE);
        check.due("no day: noon(199)", none.noon(199), TurnQueue.STATE);
    }
}
