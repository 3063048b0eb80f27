import java.util.Arrays;

/**
 * Every call with every mix of numbers at and about the document's edges, in objects of several states:
 * the class and the model must answer the same, and nothing may be thrown.
 */
public final class GridTest {
    private static final int LEAST = Integer.MIN_VALUE, MOST = Integer.MAX_VALUE;
    private static final Check check = new Check();
    /** An object is used for 512 calls at most: ahead of that it is made anew. */
    private static final int CALLS = 350;
    private static final int[] ANY = {LEAST, LEAST + 1, -101, -64, -60, -10, -9, -8, -2, -1, 0, 1, 2, 3, 4, 5, 6, 7, 8, 9, 16, 17, 18,
            30, 31, 32, 33, 36, 37, 38, 58, 59, 60, 61, 62, 63, 64, 65, 113, 122, 198, 199, 200, 201, 255, 256, MOST - 1, MOST};
    private static final int[] FEW = {LEAST, -1, 0, 1, 2, 3, 4, MOST};
    private static final int[] CELLS = {LEAST, -1, 0, 1, 2, 3, 16, 17, 18, 36, 37, 59, 60, 61, MOST};
    private static final String[] DAYS = {"", "d0;p001", "d1;p009;m019;c029", "d2;c599;m599;p599;c599;m599;p599;c599",
            "d0;m009;m009;m009;m009;m009;m009;m009", "d1;p031;c031;m042;p042;c052;m053;p061"};
    private static TurnQueue x;
    private static Model model;
    private static int state;
    private static int calls;

    public static void main(String[] args) {
        for (state = 0; state < DAYS.length; state++) {
            make();
            askOfOne();
            askOfTwo();
            change();
            sheets();
            copies();
        }
        check.end();
    }

    private static void make() {
        calls = 0;
        x = new TurnQueue();
        model = new Model();
        String text = DAYS[state];
        put(0, 0, text);
        int day = x.day(0, 0, 0, text.length());
        if (day != model.day(0, 0, 0, text.length()) || state > 0 && day < 1) throw new IllegalStateException(text);
        for (int minute = state; minute < 60 && state > 0; minute += state) {
            x.bell(minute, true);
            model.bell(minute, true);
        }
        for (int p = 0; p < day; p += 2) {
            x.runOut(p, 5 + p);
            model.runOut(p, 5 + p);
            x.reading(p, x.served(p));
            model.reading(p, model.served(p));
        }
        put(1, 1, "d2;p001");
        x.sheet(2, 2, 60);
        model.sheet(2, 2, 60);
    }

    private static void put(int sheet, int lane, String text) {
        x.sheet(sheet, lane, text.length());
        model.sheet(sheet, lane, text.length());
        for (int i = 0; i < text.length(); i++) {
            x.put(sheet, i, text.charAt(i));
            model.put(sheet, i, text.charAt(i));
        }
    }

    private static void due(String call, long got, long want, int... numbers) {
        calls++;
        String told = call;
        // told at length only where it will be read
        if (got != want) told = "day '" + DAYS[state] + "': " + call + " " + Arrays.toString(numbers);
        check.due(told, got, want);
        if (calls >= CALLS) make();
    }

    private static void faultDue(String call, long got, long want, int... numbers) {
        due("fault() behind " + call, x.fault(), model.fault(), numbers);
        due(call, got, want, numbers);
    }

    private static void askOfOne() {
        for (int a : ANY) {
            due("served", x.served(a), model.served(a), a);
            due("waits", x.waits(a), model.waits(a), a);
            due("calm", x.calm(a), model.calm(a), a);
            due("which", x.which(a), model.which(a), a);
            due("noon", x.noon(a), model.noon(a), a);
            due("tell", x.tell(a), model.tell(a), a);
            due("greet", x.greet(a), model.greet(a), a);
            due("trace", x.trace(), model.trace());
            due("many", x.many(a), model.many(a), a);
            due("bells", x.bells(), model.bells());
            due("loss", x.loss(), model.loss());
        }
    }

    private static void askOfTwo() {
        for (int a : ANY) {
            for (int b : ANY) {
                due("ofPerson", x.ofPerson(a, b), model.ofPerson(a, b), a, b);
                due("queue", x.queue(a, b), model.queue(a, b), a, b);
                due("best", x.best(a, b), model.best(a, b), a, b);
                due("ringer", x.ringer(a, b), model.ringer(a, b), a, b);
                due("pays", x.pays(a, b), model.pays(a, b), a, b);
                faultDue("as", x.as(a, b), model.as(a, b), a, b);
            }
        }
    }

    private static void change() {
        for (int a : ANY) {
            for (int b : ANY) {
                due("come", x.come(a, b), model.come(a, b), a, b);
                due("runOut", x.runOut(a, b), model.runOut(a, b), a, b);
                due("reading", x.reading(a, b), model.reading(a, b), a, b);
                due("served", x.served(0), model.served(0));
            }
            due("back", x.back(a), model.back(a), a);
            for (int time = 0; time < 2; time++) {
                due("bell, true", x.bell(a, true), model.bell(a, true), a);
                due("bell, false", x.bell(a, false), model.bell(a, false), a);
            }
            due("lose", x.lose(a), model.lose(a), a);
        }
    }

    private static void sheets() {
        for (int k : FEW) {
            for (int a : ANY) {
                for (int lane : FEW) {
                    faultDue("cell", x.cell(k, a, lane), model.cell(k, a, lane), k, a, lane);
                    for (int n : CELLS) faultDue("day", x.day(k, lane, a, n), model.day(k, lane, a, n), k, lane, a, n);
                }
                for (int v : ANY) faultDue("put", x.put(k, a, v), model.put(k, a, v), k, a, v);
            }
            for (int lane : FEW) {
                for (int n : ANY) {
                    faultDue("sheet", x.sheet(k, lane, n), model.sheet(k, lane, n), k, lane, n);
                    due("cell", x.cell(k, n - 1, lane), model.cell(k, n - 1, lane), k, lane, n);
                }
            }
        }
    }

    private static void copies() {
        for (int k : FEW) {
            for (int other : FEW) {
                for (int i : CELLS) {
                    for (int j : CELLS) {
                        for (int n : CELLS) faultDue("copy", x.copy(k, i, other, j, n), model.copy(k, i, other, j, n), k, i, other, j, n);
                    }
                }
            }
        }
    }
}
