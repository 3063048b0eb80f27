/** Counts the answers that are not as due, and helps to lay a text on a sheet. */
final class Check {
    private int asked = 0;
    private int wrong = 0;

    void due(String call, long got, long want) {
        asked++;
        if (got == want) return;
        wrong++;
        System.out.println(call + " answered " + got + ", due is " + want);
    }

    /** Ends the program, with exit code 1 if an answer was wrong. */
    void end() {
        System.out.println(asked + " answers, " + wrong + " wrong");
        System.exit(asked > 0 && wrong == 0 ? 0 : 1);
    }

    /** Lays a text on sheet 0 as bytes and takes it as the day. */
    static int day(TurnQueue x, String text) {
        lay(x, 0, 0, text);
        return x.day(0, 0, 0, text.length());
    }

    static void lay(TurnQueue x, int sheet, int lane, String text) {
        x.sheet(sheet, lane, text.length());
        for (int i = 0; i < text.length(); i++) x.put(sheet, i, text.charAt(i));
    }

    /** A new object with the day that the text tells and its bells. */
    static TurnQueue with(String text, int... bells) {
        TurnQueue x = new TurnQueue();
        if (day(x, text) < 1) throw new IllegalStateException(text);
        for (int minute : bells) x.bell(minute, true);
        return x;
    }

    /** Who is being served as a minute is over, a stroke, the queue; a dot where nobody is served. */
    static String stands(TurnQueue x, int minute) {
        StringBuilder told = new StringBuilder();
        int serving = x.queue(minute, -1);
        told.append(serving == TurnQueue.NONE ? "." : String.valueOf(serving)).append('|');
        for (int k = 0; x.queue(minute, k) != TurnQueue.NONE && k < 10; k++) told.append(x.queue(minute, k));
        return told.toString();
    }

    void stands(TurnQueue x, int minute, String want) {
        asked++;
        String got = stands(x, minute);
        if (got.equals(want)) return;
        wrong++;
        System.out.println("minute " + minute + " is over with " + got + ", due is " + want);
    }

    /** SERVED of all, in a row. */
    void served(String what, TurnQueue x, int... minutes) {
        for (int p = 0; p < minutes.length; p++) due(what + " served(" + p + ")", x.served(p), minutes[p]);
        due(what + " served of one more", x.served(minutes.length), TurnQueue.UNKNOWN);
    }
}
