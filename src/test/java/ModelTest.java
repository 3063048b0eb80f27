import java.util.Random;

/** Runs of calls drawn by number, on the class and on the model: each answer must be the same. */
public final class ModelTest {
    private static final int RUNS = 400, CALLS = 512;
    private static final Check check = new Check();
    private static Random random;
    private static TurnQueue x;
    private static Model model;

    public static void main(String[] args) {
        int runs = args.length > 0 ? Integer.parseInt(args[0]) : RUNS;
        int from = args.length > 1 ? Integer.parseInt(args[1]) : 0;
        for (int run = from; run < from + runs; run++) {
            random = new Random(run);
            x = new TurnQueue();
            model = new Model();
            int calls = newDay("run " + run + ": ");
            while (calls < CALLS - 60) calls += step("run " + run + ", call " + calls + ": ");
        }
        check.end();
    }

    private static int step(String at) {
        int draw = random.nextInt(100);
        if (draw < 4) return newDay(at);
        if (draw < 30) return change(at);
        if (draw < 50) return sheets(at);
        if (draw < 96) return ask(at);
        return askDear(at);
    }

    private static int person() {
        return random.nextInt(20) == 0 ? random.nextInt(12) - 3 : random.nextInt(Math.max(1, model.many(0)));
    }

    /** Mostly about when somebody comes: else few bells and few who run out would find a queue. */
    private static int minute() {
        if (random.nextInt(20) == 0) return random.nextInt(80) - 10;
        if (model.many(0) == 0 || random.nextInt(3) == 0) return random.nextInt(60);
        return (model.ofPerson(random.nextInt(model.many(0)), 1) + random.nextInt(12)) % 60;
    }

    private static int late() {
        if (random.nextInt(20) == 0) return random.nextInt(220) - 10;
        return random.nextBoolean() ? random.nextInt(125) : Math.max(0, minute());
    }

    private static int what() {
        return random.nextInt(20) == 0 ? random.nextInt(8) - 3 : random.nextInt(2);
    }

    private static int newDay(String at) {
        int lane = random.nextInt(3);
        String text = text();
        int n = text.length();
        check.due(at + "sheet", x.sheet(0, lane, n), model.sheet(0, lane, n));
        for (int i = 0; i < n; i++) check.due(at + "put", x.put(0, i, text.charAt(i)), model.put(0, i, text.charAt(i)));
        check.due(at + "day of " + text, x.day(0, lane, 0, n), model.day(0, lane, 0, n));
        return n + 2;
    }

    private static String text() {
        StringBuilder text = new StringBuilder("d").append(random.nextInt(3));
        int count = random.nextInt(30) == 0 ? 8 : 1 + random.nextInt(7);
        int from = random.nextInt(4) == 0 ? random.nextInt(50) : 0;
        int span = 1 + random.nextInt(random.nextBoolean() ? 10 : 60 - from);
        for (int p = 0; p < count; p++) {
            int comes = from + random.nextInt(span);
            text.append(';').append("ppmc".charAt(random.nextInt(4)));
            text.append(comes / 10).append(comes % 10).append(1 + random.nextInt(9));
        }
        if (random.nextInt(4) == 0) text.setCharAt(random.nextInt(text.length()), "d;pmc0123456789x".charAt(random.nextInt(16)));
        if (random.nextInt(8) == 0) text.setLength(random.nextInt(text.length() + 1));
        return text.toString();
    }

    private static int change(String at) {
        int p = person();
        int m = minute();
        boolean is = random.nextInt(3) > 0;
        switch (random.nextInt(6)) {
            case 0:
                check.due(at + "come(" + p + ", " + m + ")", x.come(p, m), model.come(p, m));
                break;
            case 1:
                int out = random.nextInt(3) == 0 ? -9 : m;
                check.due(at + "runOut(" + p + ", " + out + ")", x.runOut(p, out), model.runOut(p, out));
                break;
            case 2:
                int read = random.nextInt(3) == 0 ? late() : Math.max(0, model.served(p));
                check.due(at + "reading(" + p + ", " + read + ")", x.reading(p, read), model.reading(p, read));
                break;
            case 3:
                int k = random.nextInt(4);
                check.due(at + "back(" + k + ")", x.back(k), model.back(k));
                break;
            default:
                check.due(at + "bell(" + m + ", " + is + ")", x.bell(m, is), model.bell(m, is));
        }
        return 1;
    }

    private static int sheets(String at) {
        int k = random.nextInt(30) == 0 ? random.nextInt(7) - 2 : random.nextInt(4);
        int other = random.nextInt(30) == 0 ? random.nextInt(7) - 2 : random.nextInt(4);
        int lane = random.nextInt(30) == 0 ? random.nextInt(6) - 2 : random.nextInt(3);
        int i = random.nextInt(9) - 1;
        int j = random.nextInt(9) - 1;
        int n = random.nextInt(30) == 0 ? random.nextInt() : random.nextInt(9) - 1;
        int v = random.nextInt() >> random.nextInt(32);
        switch (random.nextInt(7)) {
            case 0:
                int size = random.nextInt(9) == 0 ? 58 + random.nextInt(5) : n;
                check.due(at + "sheet(" + k + ", " + lane + ", " + size + ")", x.sheet(k, lane, size), model.sheet(k, lane, size));
                break;
            case 1:
                if (random.nextInt(3) == 0) check.due(at + "lose(" + k + ")", x.lose(k), model.lose(k));
                break;
            case 2:
                check.due(at + "copy(" + k + ", " + i + ", " + other + ", " + j + ", " + n + ")",
                        x.copy(k, i, other, j, n), model.copy(k, i, other, j, n));
                break;
            case 3:
                check.due(at + "day(" + k + ", " + lane + ", " + i + ", " + n + ")", x.day(k, lane, i, n), model.day(k, lane, i, n));
                break;
            case 4:
                check.due(at + "cell(" + k + ", " + i + ", " + lane + ")", x.cell(k, i, lane), model.cell(k, i, lane));
                break;
            default:
                check.due(at + "put(" + k + ", " + i + ", " + v + ")", x.put(k, i, v), model.put(k, i, v));
        }
        check.due(at + "fault()", x.fault(), model.fault());
        return 2;
    }

    private static int ask(String at) {
        int p = person();
        int what = what();
        int m = late();
        switch (random.nextInt(15)) {
            case 0: case 1: case 2:
                check.due(at + "served(" + p + ")", x.served(p), model.served(p));
                break;
            case 3: case 4:
                int k = random.nextInt(9) - 2;
                check.due(at + "queue(" + m + ", " + k + ")", x.queue(m, k), model.queue(m, k));
                break;
            case 5:
                check.due(at + "waits(" + what + ")", x.waits(what), model.waits(what));
                break;
            case 6:
                check.due(at + "loss()", x.loss(), model.loss());
                break;
            case 7:
                check.due(at + "ringer(" + p + ", " + what + ")", x.ringer(p, what), model.ringer(p, what));
                break;
            case 8:
                check.due(at + "noon(" + m + ")", x.noon(m), model.noon(m));
                break;
            case 9:
                check.due(at + "tell(" + p + ")", x.tell(p), model.tell(p));
                break;
            case 10:
                check.due(at + "greet(" + p + ")", x.greet(p), model.greet(p));
                break;
            case 11:
                int kind = random.nextInt(5) - 1;
                check.due(at + "as(" + p + ", " + kind + ")", x.as(p, kind), model.as(p, kind));
                break;
            case 12:
                int of = random.nextInt(6) - 1;
                check.due(at + "ofPerson(" + p + ", " + of + ")", x.ofPerson(p, of), model.ofPerson(p, of));
                break;
            case 13:
                int many = random.nextInt(6) - 1;
                check.due(at + "many(" + many + ")", x.many(many), model.many(many));
                break;
            default:
                check.due(at + "bells()", x.bells(), model.bells());
                check.due(at + "trace()", x.trace(), model.trace());
        }
        return 2;
    }

    /** What the model needs long for. */
    private static int askDear(String at) {
        int p = person();
        int what = what();
        switch (random.nextInt(6)) {
            case 0: case 1:
                check.due(at + "best(" + p + ", " + what + ")", x.best(p, what), model.best(p, what));
                break;
            case 2: case 3:
                check.due(at + "pays(" + p + ", " + what + ")", x.pays(p, what), model.pays(p, what));
                break;
            case 4:
                int whom = random.nextInt(3) == 0 ? p : -1 - random.nextInt(9) / 8;
                check.due(at + "calm(" + whom + ")", x.calm(whom), model.calm(whom));
                break;
            default:
                int q = random.nextInt(10) == 0 ? 2 : random.nextInt(3) - 1;
                check.due(at + "which(" + q + ")", x.which(q), model.which(q));
        }
        return 1;
    }
}
