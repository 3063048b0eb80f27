import java.util.ArrayList;
import java.util.Collections;
import java.util.List;
import java.util.TreeSet;

/**
 * The document once more, word by word and without any short cut, to be held against the class:
 * it tries every minute, every set and every pair, and works out each run of the counter anew.
 */
final class Model {
    /** A person as the text tells it. */
    private static final class Person {
        final char letter;
        int comes;
        final int wants;
        int out = TurnQueue.NONE;

        Person(char letter, int comes, int wants) {
            this.letter = letter;
            this.comes = comes;
            this.wants = wants;
        }

        int kind() {
            return "pmc".indexOf(letter);
        }
    }

    /** How the counter's minutes go: the queue as each of them is over. */
    private final class Run {
        final int[] serving = new int[200];
        final List<List<Integer>> queues = new ArrayList<>();
        final int[] served = new int[persons.size()];

        Run(TreeSet<Integer> bells, int set) {
            List<Integer> queue = new ArrayList<>();
            int now = TurnQueue.NONE;
            int left = 0;
            for (int minute = 0; minute < 200; minute++) {
                if (now != TurnQueue.NONE && --left == 0) now = TurnQueue.NONE;
                for (int p = 0; p < persons.size(); p++) {
                    if (persons.get(p).out == minute && queue.remove((Integer) p)) queue.add(p);
                }
                for (int p = 0; p < persons.size(); p++) {
                    if ((set >> p & 1) == 1 && persons.get(p).comes == minute) stand(queue, p);
                }
                if (bells.contains(minute)) turn(queue);
                if (now == TurnQueue.NONE && !queue.isEmpty()) {
                    now = queue.remove(0);
                    left = persons.get(now).wants;
                    served[now] = minute;
                }
                serving[minute] = now;
                queues.add(new ArrayList<>(queue));
            }
        }

        private void stand(List<Integer> queue, int p) {
            int at = queue.size();
            if (persons.get(p).letter == 'm' && at > 0) at--;
            if (persons.get(p).letter == 'c') {
                for (int k = queue.size() - 1; k >= 0; k--) {
                    if (persons.get(queue.get(k)).letter != 'p') at = k + 1;
                }
            }
            queue.add(at, p);
        }

        private void turn(List<Integer> queue) {
            if (law == 0) Collections.reverse(queue);
            if (law == 1) Collections.reverse(queue.subList(0, queue.size() / 2));
            if (law == 2) Collections.rotate(queue, 1);
        }
    }

    private List<Person> persons = new ArrayList<>();
    private int law = 0;
    private TreeSet<Integer> bells = new TreeSet<>();
    private final List<int[]> readings = new ArrayList<>();
    /** Each a row behind its lane, or null. */
    private final List<List<Integer>> sheets = new ArrayList<>(Collections.nCopies(4, null));
    private final int[] lanes = new int[4];
    private int trace = 0;
    private int fault = 0;

    private boolean isPerson(int p) {
        return p >= 0 && p < persons.size();
    }

    private boolean isMinute(int minute) {
        return minute >= 0 && minute <= 59;
    }

    private int all() {
        return (1 << persons.size()) - 1;
    }

    private int refuse(int answer) {
        fault = 0;
        return answer;
    }

    private int fail(int number) {
        fault = number;
        return -10 - number;
    }

    int day(int sheet, int lane, int i, int n) {
        if (sheet < 0 || sheet > 3) return refuse(-1);
        if (lane < 0 || lane > 2) return refuse(-2);
        List<Integer> row = sheets.get(sheet);
        if (row != null && lanes[sheet] != lane) return fail(2);
        if (row == null) return fail(1);
        if (n < 0) return fail(4);
        if (i < 0 || (long) i + n > row.size()) return fail(3);
        StringBuilder text = new StringBuilder();
        for (int k = i; k < i + n; k++) {
            int code = row.get(k);
            text.append(code > 0 && code < 128 ? (char) code : '?');
        }
        if (!text.toString().matches("d[0-2](;[pmc][0-5][0-9][1-9]){1,7}")) return refuse(-100 - firstFault(text.toString()));
        law = text.charAt(1) - '0';
        persons = new ArrayList<>();
        for (int at = 2; at < n; at += 5) {
            int comes = Integer.parseInt(text.substring(at + 2, at + 4));
            persons.add(new Person(text.charAt(at + 1), comes, text.charAt(at + 4) - '0'));
        }
        bells = new TreeSet<>();
        readings.clear();
        return refuse(persons.size());
    }

    /** How much of a text some whole text begins with. */
    private static int firstFault(String text) {
        String whole = "d0" + ";p001".repeat(7);
        for (int length = 1; length <= text.length(); length++) {
            String begun = text.substring(0, length);
            String filled = length > whole.length() ? begun : begun + whole.substring(length);
            if (!filled.matches("d[0-2](;[pmc][0-5][0-9][1-9]){7}")) return length - 1;
        }
        return text.length();
    }

    int ofPerson(int p, int what) {
        if (!isPerson(p)) return -1;
        if (what < 0 || what > 3) return -2;
        Person one = persons.get(p);
        return new int[] {one.kind(), one.comes, one.wants, one.out}[what];
    }

    int come(int p, int minute) {
        if (!isPerson(p)) return -1;
        if (!isMinute(minute)) return -2;
        int before = persons.get(p).comes;
        persons.get(p).comes = minute;
        return before;
    }

    int runOut(int p, int minute) {
        if (!isPerson(p)) return -1;
        if (!isMinute(minute) && minute != -9) return -2;
        int before = persons.get(p).out;
        persons.get(p).out = minute;
        return before;
    }

    int bell(int minute, boolean is) {
        if (!isMinute(minute)) return -1;
        if (persons.isEmpty()) return -3;
        return (is ? bells.add(minute) : bells.remove(minute)) ? 1 : 0;
    }

    long bells() {
        long set = 0;
        for (int minute : bells) set += 1L << minute;
        return set;
    }

    int served(int p) {
        return isPerson(p) ? new Run(bells, all()).served[p] : -1;
    }

    int queue(int minute, int k) {
        if (minute < 0 || minute > 199 || k < -1) return -1;
        Run run = new Run(bells, all());
        if (k == -1) return run.serving[minute];
        return k < run.queues.get(minute).size() ? run.queues.get(minute).get(k) : -9;
    }

    private int waitOfAll() {
        int sum = 0;
        int[] served = new Run(bells, all()).served;
        for (int p = 0; p < persons.size(); p++) sum += served[p] - persons.get(p).comes;
        return sum;
    }

    private static int gcd(int a, int b) {
        return b == 0 ? a : gcd(b, a % b);
    }

    long waits(int which) {
        if (which < 0 || which > 1 || persons.isEmpty()) return TurnQueue.LOST;
        int upper = waitOfAll();
        int lower = persons.size();
        return (which == 0 ? upper : lower) / gcd(upper, lower);
    }

    int best(int p, int what) {
        if (!isPerson(p)) return -1;
        if (what < 0 || what > 1) return -2;
        int before = persons.get(p).comes;
        int least = 1000;
        int at = -1;
        for (int minute = 0; minute < 60; minute++) {
            persons.get(p).comes = minute;
            if (served(p) <= least) {
                least = served(p);
                at = minute;
            }
        }
        persons.get(p).comes = before;
        return what == 0 ? at : least;
    }

    int calm(int p) {
        if (p < -1 || p >= persons.size() && p != -1) return -1;
        if (persons.isEmpty()) return -3;
        List<Integer> before = new ArrayList<>();
        for (Person one : persons) before.add(one.comes);
        int rounds = 0;
        while (rounds < 40 && goRound()) rounds++;
        int answer = p == -1 ? (rounds == 40 ? -9 : rounds) : persons.get(p).comes;
        for (int q = 0; q < persons.size(); q++) persons.get(q).comes = before.get(q);
        return answer;
    }

    private boolean goRound() {
        boolean otherwise = false;
        for (int p = 0; p < persons.size(); p++) {
            int did = persons.get(p).comes;
            int[] wait = new int[60];
            int least = 1000;
            for (int minute = 0; minute < 60; minute++) {
                persons.get(p).comes = minute;
                wait[minute] = served(p) - minute;
                least = Math.min(least, wait[minute]);
            }
            int chosen = did;
            for (int minute = 59; minute >= 0 && wait[did] != least; minute--) {
                if (wait[minute] == least) chosen = minute;
            }
            persons.get(p).comes = chosen;
            otherwise |= chosen != did;
        }
        return otherwise;
    }

    int loss() {
        if (persons.isEmpty()) return -3;
        TreeSet<Integer> there = new TreeSet<>((a, b) -> {
            int by = Integer.compare(persons.get(a).wants, persons.get(b).wants);
            return by != 0 ? by : Integer.compare(a, b);
        });
        int sum = 0;
        int left = 0;
        for (int minute = 0; minute < 200; minute++) {
            for (int p = 0; p < persons.size(); p++) {
                if (persons.get(p).comes == minute) there.add(p);
            }
            if (left > 0) left--;
            if (left == 0 && !there.isEmpty()) {
                int p = there.pollFirst();
                left = persons.get(p).wants;
                sum += minute - persons.get(p).comes;
            }
        }
        return waitOfAll() - sum + 10000;
    }

    int ringer(int p, int what) {
        if (!isPerson(p)) return -1;
        if (what < 0 || what > 1) return -2;
        int least = served(p);
        int move = -9;
        for (int bell : bells) {
            for (int to = 0; to < 60; to++) {
                if (Math.abs(to - bell) > 3 || bells.contains(to)) continue;
                TreeSet<Integer> moved = new TreeSet<>(bells);
                moved.remove(bell);
                moved.add(to);
                int served = new Run(moved, all()).served[p];
                if (served < least) {
                    least = served;
                    move = bell * 100 + to;
                }
            }
        }
        return what == 0 ? move : least;
    }

    int pays(int p, int what) {
        if (!isPerson(p)) return -1;
        if (what < 0 || what > 1) return -2;
        int out = persons.get(p).out;
        int before = served(p);
        int sooner = 0;
        int at = -9;
        for (int minute = 0; minute < 60; minute++) {
            persons.get(p).out = minute;
            if (before - served(p) > sooner) {
                sooner = before - served(p);
                at = minute;
            }
        }
        persons.get(p).out = out;
        return what == 0 ? sooner : at;
    }

    int reading(int p, int minute) {
        if (!isPerson(p)) return -1;
        if (minute < 0 || minute > 199) return -2;
        if (readings.size() == 8) return -4;
        readings.add(new int[] {p, minute});
        return readings.size() - 1;
    }

    int back(int k) {
        if (k < 0 || k > readings.size()) return -2;
        for (int n = 0; n < k; n++) readings.remove(readings.size() - 1);
        return readings.size();
    }

    int which(int q) {
        if (q < -1 || q > 1) return -1;
        if (persons.isEmpty()) return -3;
        List<List<Integer>> found = new ArrayList<>();
        findIfSo(found, List.of());
        for (int a = 0; a < 60; a++) findIfSo(found, List.of(a));
        for (int a = 0; a < 60; a++) {
            for (int b = a + 1; b < 60; b++) findIfSo(found, List.of(a, b));
        }
        if (q == -1) return found.size();
        return found.isEmpty() || found.get(0).size() <= q ? -9 : found.get(0).get(q);
    }

    private void findIfSo(List<List<Integer>> found, List<Integer> minutes) {
        int[] served = new Run(new TreeSet<>(minutes), all()).served;
        for (int[] reading : readings) {
            if (served[reading[0]] != reading[1]) return;
        }
        found.add(minutes);
    }

    int noon(int minute) {
        if (minute < 0 || minute > 199) return -2;
        if (persons.isEmpty()) return -3;
        int greatest = 0;
        for (int set = all(); set >= 0; set--) {
            if (Integer.bitCount(set) >= Integer.bitCount(greatest) && allServedBy(set, minute)) greatest = set;
        }
        return greatest;
    }

    private boolean allServedBy(int set, int minute) {
        int[] served = new Run(bells, set).served;
        for (int p = 0; p < persons.size(); p++) {
            if ((set >> p & 1) == 1 && served[p] > minute) return false;
        }
        return true;
    }

    int sheet(int k, int lane, int n) {
        if (k < 0 || k > 3) return refuse(-1);
        if (lane < 0 || lane > 2 || n > 60) return refuse(-2);
        if (n < 0) return fail(4);
        sheets.set(k, new ArrayList<>(Collections.nCopies(n, 0)));
        lanes[k] = lane;
        return refuse(1);
    }

    int lose(int k) {
        if (k < 0 || k > 3) return -1;
        return sheets.set(k, null) == null ? 0 : 1;
    }

    int put(int k, int i, int v) {
        if (k < 0 || k > 3) return refuse(-1);
        if (sheets.get(k) == null) return fail(1);
        if (i < 0 || i >= sheets.get(k).size()) return fail(3);
        sheets.get(k).set(i, lanes[k] == 0 ? (byte) v : lanes[k] == 1 ? (short) v : v);
        return refuse(1);
    }

    long cell(int k, int i, int lane) {
        int answer = 0;
        if (k < 0 || k > 3) answer = refuse(-1);
        else if (lane < 0 || lane > 2) answer = refuse(-2);
        else if (sheets.get(k) != null && lanes[k] != lane) answer = fail(2);
        else if (sheets.get(k) == null) answer = fail(1);
        else if (i < 0 || i >= sheets.get(k).size()) answer = fail(3);
        if (answer != 0) return TurnQueue.LOST;
        return refuse(sheets.get(k).get(i));
    }

    int copy(int k, int i, int other, int j, int n) {
        if (k < 0 || k > 3 || other < 0 || other > 3) return refuse(-1);
        if (sheets.get(k) == null || sheets.get(other) == null) return fail(1);
        if (lanes[k] != lanes[other]) return fail(2);
        if (i < 0 || j < 0 || n < 0) return fail(3);
        if ((long) i + n > sheets.get(k).size() || (long) j + n > sheets.get(other).size()) return fail(3);
        List<Integer> were = new ArrayList<>(sheets.get(k).subList(i, i + n));
        for (int at = 0; at < n; at++) sheets.get(other).set(j + at, were.get(at));
        return refuse(n);
    }

    int tell(int p) {
        if (!isPerson(p)) return -1;
        int wants = persons.get(p).wants;
        switch (persons.get(p).letter) {
            case 'p':
                leave(1);
                return wants;
            case 'm':
                leave(2, 1);
                return wants + 100;
            default:
                leave(3, 2, 1, 1);
                return wants + 100 + wants;
        }
    }

    int greet(int p) {
        if (!isPerson(p)) return -1;
        leave(persons.get(p).letter == 'c' ? 5 : 4);
        return persons.get(p).letter == 'c' ? 90 : p;
    }

    private void leave(int... bodies) {
        for (int body : bodies) trace = trace * 31 + body;
    }

    int as(int p, int kind) {
        if (!isPerson(p)) return refuse(-1);
        if (kind < 0 || kind > 2) return refuse(-2);
        return persons.get(p).kind() >= kind ? refuse(1) : fail(2);
    }

    int trace() {
        return trace;
    }

    int fault() {
        return fault;
    }

    int many(int what) {
        switch (what) {
            case 0: return persons.size();
            case 1: return law;
            case 2: return bells.size();
            case 3: return readings.size();
            default: return -2;
        }
    }
}
