/**
 * A counter whose QUEUE turns round at each BELL: a DAY told in a text, who is SERVED when, and
 * what would be if somebody came, ran out or rang otherwise. The document's promises are named
 * by number at each call.
 */
public final class TurnQueue {
    public static final int UNKNOWN = -1, OUTSIDE = -2, STATE = -3, FULL = -4, NONE = -9;
    public static final long LOST = Long.MIN_VALUE;

    private static final int NULL = 1, CAST = 2, INDEX = 3, SIZE = 4;
    private static final int MOTHER = 1, COUSIN = 2;
    private static final int MOST_PERSONS = 7, MOST_READINGS = 8, MOST_ROUNDS = 40;
    private static final int MINUTES = 60, LAST_MINUTE = 199;
    private static final int SHEETS = 4, CELLS = 60;

    private final Plan plan = new Plan();
    private final Counter counter = new Counter();
    private final Choices choices = new Choices();
    private final Ringers ringers = new Ringers();
    private final Readings readings = new Readings();
    private final Sheet[] sheets = new Sheet[SHEETS];
    private int traced = 0;
    private int lastFault = 0;

    /** Promise 1. */
    public TurnQueue() {
        for (int k = 0; k < SHEETS; k++) sheets[k] = new Sheet();
    }

    // ---- 1 the day

    /** Promise 2. */
    public int day(int sheet, int lane, int i, int n) {
        if (!isSheet(sheet)) return faultless(UNKNOWN);
        if (!isLane(lane)) return faultless(OUTSIDE);
        Sheet from = sheets[sheet];
        if (from.isOfAnother(lane)) return faulted(CAST);
        if (from.hasNothing()) return faulted(NULL);
        if (n < 0) return faulted(SIZE);
        if (!from.holds(i, n)) return faulted(INDEX);
        int fault = Text.firstFault(from, i, n);
        if (fault != NONE) return faultless(-100 - fault);
        Text.readInto(plan, from, i, n);
        readings.count = 0;
        return faultless(plan.count);
    }

    /** Promise 3. */
    public int ofPerson(int p, int what) {
        if (!plan.has(p)) return UNKNOWN;
        switch (what) {
            case 0: return plan.kinds[p];
            case 1: return plan.comes[p];
            case 2: return plan.wants[p];
            case 3: return plan.outs[p];
            default: return OUTSIDE;
        }
    }

    /** Promise 4. */
    public int come(int p, int minute) {
        if (!plan.has(p)) return UNKNOWN;
        if (!isMinute(minute)) return OUTSIDE;
        int before = plan.comes[p];
        plan.comes[p] = minute;
        return before;
    }

    /** Promise 5. */
    public int runOut(int p, int minute) {
        if (!plan.has(p)) return UNKNOWN;
        if (minute != NONE && !isMinute(minute)) return OUTSIDE;
        int before = plan.outs[p];
        plan.outs[p] = minute;
        return before;
    }

    /** Promise 6. */
    public int bell(int minute, boolean is) {
        if (!isMinute(minute)) return UNKNOWN;
        if (plan.isNone()) return STATE;
        if (hasMinute(plan.bells, minute) == is) return 0;
        plan.bells ^= 1L << minute;
        return 1;
    }

    /** Promise 7. */
    public long bells() {
        return plan.bells;
    }

    // ---- 2 minute by minute

    /** Promise 8. */
    public int served(int p) {
        return plan.has(p) ? counter.servedOf(plan, p) : UNKNOWN;
    }

    /** Promise 9. */
    public int queue(int minute, int k) {
        if (minute < 0 || minute > LAST_MINUTE || k < -1) return UNKNOWN;
        counter.runThrough(plan, minute);
        return k == -1 ? counter.serving : counter.line.at(k);
    }

    /** Promise 10. */
    public long waits(int which) {
        if (which != 0 && which != 1) return LOST;
        if (plan.isNone()) return LOST;
        int upper = counter.waitOfAll(plan);
        int divisor = commonDivisor(upper, plan.count);
        return (which == 0 ? upper : plan.count) / divisor;
    }

    // ---- 3 when to come

    /** Promise 11. */
    public int best(int p, int what) {
        if (!plan.has(p)) return UNKNOWN;
        if (what != 0 && what != 1) return OUTSIDE;
        choices.findBest(plan, p);
        return what == 0 ? choices.minute : choices.servedThen;
    }

    /** Promise 12. */
    public int calm(int p) {
        if (p < -1 || p >= 0 && !plan.has(p)) return UNKNOWN;
        if (plan.isNone()) return STATE;
        choices.findCalm(plan);
        return p == -1 ? choices.rounds : choices.guess.comes[p];
    }

    /** Promise 13. */
    public int loss() {
        if (plan.isNone()) return STATE;
        return counter.waitOfAll(plan) - choices.waitByLeastFirst(plan) + 10000;
    }

    // ---- 4 ringers, readings, noon

    /** Promise 14. */
    public int ringer(int p, int what) {
        if (!plan.has(p)) return UNKNOWN;
        if (what != 0 && what != 1) return OUTSIDE;
        ringers.findMove(plan, p);
        return what == 0 ? ringers.move : ringers.servedThen;
    }

    /** Promise 15. */
    public int pays(int p, int what) {
        if (!plan.has(p)) return UNKNOWN;
        if (what != 0 && what != 1) return OUTSIDE;
        choices.findRunOut(plan, p);
        if (what == 1) return choices.minute;
        return counter.servedOf(plan, p) - choices.servedThen;
    }

    /** Promise 16. */
    public int reading(int p, int minute) {
        if (!plan.has(p)) return UNKNOWN;
        if (minute < 0 || minute > LAST_MINUTE) return OUTSIDE;
        return readings.add(p, minute);
    }

    /** Promise 17. */
    public int back(int k) {
        if (k < 0 || k > readings.count) return OUTSIDE;
        readings.count -= k;
        return readings.count;
    }

    /** Promise 18. */
    public int which(int q) {
        if (q < -1 || q > 1) return UNKNOWN;
        if (plan.isNone()) return STATE;
        ringers.findSets(plan, readings);
        if (q == -1) return ringers.sets;
        return q == 0 ? ringers.firstMinute : ringers.secondMinute;
    }

    /** Promise 19. */
    public int noon(int minute) {
        if (minute < 0 || minute > LAST_MINUTE) return OUTSIDE;
        if (plan.isNone()) return STATE;
        return ringers.greatestServedBy(plan, minute);
    }

    // ---- 5 sheets, parts

    /** Promise 20. */
    public int sheet(int k, int lane, int n) {
        if (!isSheet(k)) return faultless(UNKNOWN);
        if (!isLane(lane) || n > CELLS) return faultless(OUTSIDE);
        if (n < 0) return faulted(SIZE);
        sheets[k].begin(lane, n);
        return faultless(1);
    }

    /** Promise 21. */
    public int lose(int k) {
        if (!isSheet(k)) return UNKNOWN;
        if (sheets[k].hasNothing()) return 0;
        sheets[k].drop();
        return 1;
    }

    /** Promise 22. */
    public int put(int k, int i, int v) {
        if (!isSheet(k)) return faultless(UNKNOWN);
        Sheet to = sheets[k];
        if (to.hasNothing()) return faulted(NULL);
        if (!to.holds(i, 1)) return faulted(INDEX);
        to.write(i, v);
        return faultless(1);
    }

    /** Promise 23. */
    public long cell(int k, int i, int lane) {
        if (!isSheet(k) || !isLane(lane)) return lostBy(0);
        Sheet from = sheets[k];
        if (from.isOfAnother(lane)) return lostBy(CAST);
        if (from.hasNothing()) return lostBy(NULL);
        if (!from.holds(i, 1)) return lostBy(INDEX);
        return faultless(from.at(i));
    }

    /** Promise 24. */
    public int copy(int k, int i, int other, int j, int n) {
        if (!isSheet(k) || !isSheet(other)) return faultless(UNKNOWN);
        Sheet from = sheets[k];
        Sheet to = sheets[other];
        if (from.hasNothing() || to.hasNothing()) return faulted(NULL);
        if (to.isOfAnother(from.lane)) return faulted(CAST);
        if (!from.holds(i, n) || !to.holds(j, n)) return faulted(INDEX);
        System.arraycopy(from.cells, i, to.cells, j, n);
        return faultless(n);
    }

    /** Promise 25. */
    public int tell(int p) {
        if (!plan.has(p)) return UNKNOWN;
        switch (plan.kinds[p]) {
            case COUSIN: return cousinTells(p);
            case MOTHER: return motherTells(p);
            default: return personTells(p);
        }
    }

    /** Promise 26. */
    public int greet(int p) {
        if (!plan.has(p)) return UNKNOWN;
        boolean own = plan.kinds[p] == COUSIN;
        leave(own ? 5 : 4);
        return own ? 90 : p;
    }

    /** Promise 27. */
    public int as(int p, int kind) {
        if (!plan.has(p)) return faultless(UNKNOWN);
        if (kind < 0 || kind > COUSIN) return faultless(OUTSIDE);
        return plan.kinds[p] < kind ? faulted(CAST) : faultless(1);
    }

    /** Promise 28. */
    public int trace() {
        return traced;
    }

    /** Promise 29. */
    public int fault() {
        return lastFault;
    }

    /** Promise 30. */
    public int many(int what) {
        switch (what) {
            case 0: return plan.count;
            case 1: return plan.law;
            case 2: return Long.bitCount(plan.bells);
            case 3: return readings.count;
            default: return OUTSIDE;
        }
    }

    private int personTells(int p) {
        leave(1);
        return plan.wants[p];
    }

    private int motherTells(int p) {
        leave(2);
        return personTells(p) + 100;
    }

    private int cousinTells(int p) {
        leave(3);
        int asMother = motherTells(p);
        return asMother + personTells(p);
    }

    private void leave(int body) {
        traced = 31 * traced + body;
    }

    private int faultless(int answer) {
        lastFault = 0;
        return answer;
    }

    private int faulted(int fault) {
        lastFault = fault;
        return -10 - fault;
    }

    private long lostBy(int fault) {
        lastFault = fault;
        return LOST;
    }

    private static boolean isSheet(int k) {
        return k >= 0 && k < SHEETS;
    }

    private static boolean isLane(int lane) {
        return lane >= 0 && lane <= Sheet.INTS;
    }

    private static boolean isMinute(int minute) {
        return minute >= 0 && minute < MINUTES;
    }

    private static boolean hasMinute(long minutes, int minute) {
        return isMinute(minute) && (minutes >>> minute & 1L) != 0;
    }

    private static boolean hasPerson(int persons, int p) {
        return (persons >>> p & 1) != 0;
    }

    private static int commonDivisor(int upper, int count) {
        for (int divisor = count; divisor > 1; divisor--) {
            if (upper % divisor == 0 && count % divisor == 0) return divisor;
        }
        return 1;
    }

    /** All that a run of the counter goes by; nobody is in it as long as there is no DAY. */
    private static final class Plan {
        int law = 0;
        int count = 0;
        long bells = 0;
        final int[] kinds = new int[MOST_PERSONS];
        final int[] comes = new int[MOST_PERSONS];
        final int[] wants = new int[MOST_PERSONS];
        final int[] outs = new int[MOST_PERSONS];

        boolean isNone() {
            return count == 0;
        }

        boolean has(int p) {
            return p >= 0 && p < count;
        }

        int everybody() {
            return (1 << count) - 1;
        }

        void takeFrom(Plan other) {
            law = other.law;
            count = other.count;
            bells = other.bells;
            for (int p = 0; p < MOST_PERSONS; p++) {
                kinds[p] = other.kinds[p];
                comes[p] = other.comes[p];
                wants[p] = other.wants[p];
                outs[p] = other.outs[p];
            }
        }
    }

    /** A TEXT: what may stand at each place of it follows from the place alone. */
    private static final class Text {
        private static final int HEAD = 2, PART = 5, MOST_CODES = HEAD + PART * MOST_PERSONS;

        static int firstFault(Sheet from, int i, int n) {
            for (int place = 0; place < n; place++) {
                if (!goesOn(place, from.at(i + place))) return place;
            }
            return n > HEAD && (n - HEAD) % PART == 0 ? NONE : n;
        }

        private static boolean goesOn(int place, int code) {
            if (place == 0) return code == 'd';
            if (place == 1) return code >= '0' && code <= '2';
            if (place >= MOST_CODES) return false;
            switch ((place - HEAD) % PART) {
                case 0: return code == ';';
                case 1: return code == 'p' || code == 'm' || code == 'c';
                case 2: return code >= '0' && code <= '5';
                case 3: return code >= '0' && code <= '9';
                default: return code >= '1' && code <= '9';
            }
        }

        /** Only for a text without a fault. */
        static void readInto(Plan plan, Sheet from, int i, int n) {
            plan.law = from.at(i + 1) - '0';
            plan.count = Math.min((n - HEAD) / PART, MOST_PERSONS);
            plan.bells = 0;
            for (int p = 0; p < plan.count; p++) {
                int part = i + HEAD + PART * p;
                plan.kinds[p] = kindOf(from.at(part + 1));
                plan.comes[p] = 10 * (from.at(part + 2) - '0') + from.at(part + 3) - '0';
                plan.wants[p] = from.at(part + 4) - '0';
                plan.outs[p] = NONE;
            }
        }

        private static int kindOf(int letter) {
            if (letter == 'c') return COUSIN;
            return letter == 'm' ? MOTHER : 0;
        }
    }

    /** Those who stand in the QUEUE, the first at place 0; each PERSON stands there once at most. */
    private static final class Line {
        private final int[] row = new int[MOST_PERSONS];
        int size = 0;

        int at(int place) {
            return place >= 0 && place < size ? row[place] : NONE;
        }

        int placeOf(int p) {
            for (int place = 0; place < size; place++) {
                if (row[place] == p) return place;
            }
            return NONE;
        }

        void insert(int place, int p) {
            if (place < 0 || place > size || size >= MOST_PERSONS) return;
            for (int k = size; k > place; k--) row[k] = row[k - 1];
            row[place] = p;
            size++;
        }

        int remove(int place) {
            if (place < 0 || place >= size) return NONE;
            int p = row[place];
            size--;
            for (int k = place; k < size; k++) row[k] = row[k + 1];
            return p;
        }

        void turn(int law) {
            if (size < 2) return;
            if (law == 2) {
                insert(0, remove(size - 1));
            } else {
                reverse(law == 1 ? size / 2 : size);
            }
        }

        private void reverse(int length) {
            for (int k = 0; k < length / 2; k++) {
                int p = row[k];
                row[k] = row[length - 1 - k];
                row[length - 1 - k] = p;
            }
        }
    }

    /** Goes through the minutes of a plan; what it holds afterwards is how that run ended. */
    private static final class Counter {
        final Line line = new Line();
        final int[] servedAt = new int[MOST_PERSONS];
        int serving = NONE;
        /** Those whose SERVED the run was to find and has not found. */
        int awaited = 0;
        /** The minutes at which there were some in the QUEUE for a BELL to turn. */
        long turnable = 0;
        private int doneAt = 0;

        int servedOf(Plan plan, int p) {
            run(plan, plan.everybody(), 1 << p, LAST_MINUTE);
            return servedAt[p];
        }

        void runThrough(Plan plan, int minute) {
            // one more than all PERSONS is awaited, so that the run goes on to the minute's end
            run(plan, plan.everybody(), plan.everybody() + 1, minute);
        }

        int waitOfAll(Plan plan) {
            run(plan, plan.everybody(), plan.everybody(), LAST_MINUTE);
            int sum = 0;
            for (int p = 0; p < plan.count; p++) sum += servedAt[p] - plan.comes[p];
            return sum;
        }

        /** Only those of the set are there; it ends with a minute, or sooner if nobody is awaited. */
        void run(Plan plan, int set, int toFind, int last) {
            line.size = 0;
            serving = NONE;
            awaited = toFind;
            turnable = 0;
            long moves = movesOf(plan);
            for (int minute = 0; minute <= last && awaited != 0; minute++) {
                if (minute == doneAt) serving = NONE;
                if (hasMinute(moves, minute)) {
                    letRunOut(plan, minute);
                    letCome(plan, set, minute);
                }
                if (line.size > 1 && minute < MINUTES) {
                    turnable |= 1L << minute;
                    if (hasMinute(plan.bells, minute)) line.turn(plan.law);
                }
                if (serving == NONE) serveFirst(plan, minute);
            }
        }

        /** The minutes at which somebody comes or runs out: in all others none need be looked at. */
        private static long movesOf(Plan plan) {
            long moves = 0;
            for (int p = 0; p < plan.count; p++) {
                moves |= 1L << plan.comes[p];
                if (plan.outs[p] != NONE) moves |= 1L << plan.outs[p];
            }
            return moves;
        }

        private void letRunOut(Plan plan, int minute) {
            for (int p = 0; p < plan.count; p++) {
                if (plan.outs[p] != minute) continue;
                int place = line.placeOf(p);
                if (place == NONE) continue;
                line.remove(place);
                line.insert(line.size, p);
            }
        }

        private void letCome(Plan plan, int set, int minute) {
            for (int p = 0; p < plan.count; p++) {
                if (plan.comes[p] == minute && hasPerson(set, p)) line.insert(placeToStand(plan, p), p);
            }
        }

        private int placeToStand(Plan plan, int p) {
            int end = line.size;
            if (plan.kinds[p] == MOTHER) return Math.max(end - 1, 0);
            if (plan.kinds[p] != COUSIN) return end;
            for (int place = 0; place < end; place++) {
                if (plan.kinds[line.row[place]] >= MOTHER) return place + 1;
            }
            return end;
        }

        private void serveFirst(Plan plan, int minute) {
            int first = line.remove(0);
            if (first == NONE) return;
            serving = first;
            servedAt[first] = minute;
            doneAt = minute + plan.wants[first];
            awaited &= ~(1 << first);
        }
    }

    /** What a PERSON does best. It tries on a guess, so that the plan asked about stays as it is. */
    private static final class Choices {
        private final Counter counter = new Counter();
        final Plan guess = new Plan();
        /** What the latest question found. */
        int minute = NONE;
        int servedThen = 0;
        int rounds = 0;

        void findBest(Plan plan, int p) {
            guess.takeFrom(plan);
            minute = NONE;
            servedThen = LAST_MINUTE;
            // nobody is served ahead of coming, so minutes behind the best so far cannot be better
            for (int m = 0; m < MINUTES && m <= servedThen; m++) {
                guess.comes[p] = m;
                int served = counter.servedOf(guess, p);
                if (served > servedThen) continue;
                minute = m;
                servedThen = served;
            }
        }

        /** Leaves in the guess when they come behind the rounds. */
        void findCalm(Plan plan) {
            guess.takeFrom(plan);
            rounds = NONE;
            for (int round = 0; round < MOST_ROUNDS && rounds == NONE; round++) {
                boolean otherwise = false;
                for (int p = 0; p < guess.count; p++) {
                    if (comesOtherwise(p)) otherwise = true;
                }
                if (!otherwise) rounds = round;
            }
        }

        /** Lets a PERSON of the guess choose when to come: whether that is another minute. */
        private boolean comesOtherwise(int p) {
            int before = guess.comes[p];
            int calmest = before;
            int least = counter.servedOf(guess, p) - before;
            // nobody waits less than 0
            for (int m = 0; m < MINUTES && least > 0; m++) {
                guess.comes[p] = m;
                int wait = counter.servedOf(guess, p) - m;
                if (wait >= least) continue;
                least = wait;
                calmest = m;
            }
            guess.comes[p] = calmest;
            return calmest != before;
        }

        int waitByLeastFirst(Plan plan) {
            int left = plan.everybody();
            int freeAt = 0;
            int sum = 0;
            for (int m = 0; m <= LAST_MINUTE && left != 0; m++) {
                if (m < freeAt) continue;
                int p = leastWanting(plan, left, m);
                if (p == NONE) continue;
                sum += m - plan.comes[p];
                freeAt = m + plan.wants[p];
                left &= ~(1 << p);
            }
            return sum;
        }

        private static int leastWanting(Plan plan, int left, int m) {
            int least = NONE;
            for (int p = 0; p < plan.count; p++) {
                if (!hasPerson(left, p) || plan.comes[p] > m) continue;
                if (least == NONE || plan.wants[p] < plan.wants[least]) least = p;
            }
            return least;
        }

        void findRunOut(Plan plan, int p) {
            guess.takeFrom(plan);
            minute = NONE;
            servedThen = counter.servedOf(plan, p);
            for (int m = 0; m < MINUTES; m++) {
                guess.outs[p] = m;
                int served = counter.servedOf(guess, p);
                if (served >= servedThen) continue;
                minute = m;
                servedThen = served;
            }
        }
    }

    /** Up to eight of them: a PERSON was SERVED at a minute. */
    private static final class Readings {
        private final int[] persons = new int[MOST_READINGS];
        private final int[] minutes = new int[MOST_READINGS];
        int count = 0;

        int add(int p, int minute) {
            if (count >= MOST_READINGS) return FULL;
            persons[count] = p;
            minutes[count] = minute;
            count++;
            return count - 1;
        }

        int whoAreRead() {
            int set = 0;
            for (int k = 0; k < count; k++) set |= 1 << persons[k];
            return set;
        }

        boolean areSo(int[] servedAt) {
            for (int k = 0; k < count; k++) {
                if (servedAt[persons[k]] != minutes[k]) return false;
            }
            return true;
        }
    }

    /** Which BELLS there could be, and who could be there; it tries on a guess, too. */
    private static final class Ringers {
        private static final int FARTHEST = 3;
        private final Counter counter = new Counter();
        private final Plan guess = new Plan();
        private final long[] turnableBehind = new long[MINUTES];
        /** What the latest question found. */
        int move = NONE;
        int servedThen = 0;
        int sets = 0;
        int firstMinute = NONE;
        int secondMinute = NONE;

        void findMove(Plan plan, int p) {
            guess.takeFrom(plan);
            move = NONE;
            servedThen = counter.servedOf(plan, p);
            for (int bell = 0; bell < MINUTES; bell++) {
                if (hasMinute(plan.bells, bell)) tryMoves(plan, p, bell);
            }
        }

        private void tryMoves(Plan plan, int p, int bell) {
            for (int to = bell - FARTHEST; to <= bell + FARTHEST; to++) {
                if (!isMinute(to) || hasMinute(plan.bells, to)) continue;
                guess.bells = plan.bells ^ (1L << bell) ^ (1L << to);
                int served = counter.servedOf(guess, p);
                if (served >= servedThen) continue;
                servedThen = served;
                move = 100 * bell + to;
            }
        }

        /** A BELL that finds none to turn changes nothing: its set is as good as the one without it. */
        void findSets(Plan plan, Readings readings) {
            guess.takeFrom(plan);
            sets = 0;
            firstMinute = NONE;
            secondMinute = NONE;
            boolean fitsNone = fits(0, readings);
            long turnable = counter.turnable;
            if (fitsNone) found(NONE, NONE);
            long fitting = 0;
            for (int a = 0; a < MINUTES; a++) {
                boolean turns = hasMinute(turnable, a);
                boolean fitsOne = turns ? fits(1L << a, readings) : fitsNone;
                turnableBehind[a] = turns ? counter.turnable : turnable;
                if (!fitsOne) continue;
                fitting |= 1L << a;
                found(a, NONE);
            }
            findPairs(turnable, fitting, readings);
        }

        private void findPairs(long turnable, long fitting, Readings readings) {
            for (int a = 0; a < MINUTES; a++) {
                for (int b = a + 1; b < MINUTES; b++) {
                    boolean fitsTwo;
                    if (!hasMinute(turnable, a)) fitsTwo = hasMinute(fitting, b);
                    else if (!hasMinute(turnableBehind[a], b)) fitsTwo = hasMinute(fitting, a);
                    else fitsTwo = fits(1L << a | 1L << b, readings);
                    if (fitsTwo) found(a, b);
                }
            }
        }

        private boolean fits(long bells, Readings readings) {
            guess.bells = bells;
            counter.run(guess, guess.everybody(), readings.whoAreRead(), LAST_MINUTE);
            return readings.areSo(counter.servedAt);
        }

        private void found(int first, int second) {
            if (sets == 0) {
                firstMinute = first;
                secondMinute = second;
            }
            sets++;
        }

        int greatestServedBy(Plan plan, int minute) {
            int greatest = 0;
            for (int set = 1; set <= plan.everybody(); set++) {
                if (Integer.bitCount(set) <= Integer.bitCount(greatest)) continue;
                counter.run(plan, set, set, minute);
                if (counter.awaited == 0) greatest = set;
            }
            return greatest;
        }
    }

    /** A row of numbers of a LANE, or nothing; its cells are made once and used by every row. */
    private static final class Sheet {
        static final int BYTES = 0, SHORTS = 1, INTS = 2;
        private static final int NOTHING = -1;
        private final int[] cells = new int[CELLS];
        private int lane = NOTHING;
        private int size = 0;

        boolean hasNothing() {
            return lane == NOTHING;
        }

        boolean isOfAnother(int otherLane) {
            return lane != NOTHING && lane != otherLane;
        }

        /** Whether there are n cells from i on. */
        boolean holds(int i, int n) {
            return i >= 0 && n >= 0 && i <= size && n <= size - i;
        }

        void begin(int newLane, int newSize) {
            if (newSize < 0 || newSize > CELLS) return;
            lane = newLane;
            size = newSize;
            for (int i = 0; i < CELLS; i++) cells[i] = 0;
        }

        void drop() {
            lane = NOTHING;
            size = 0;
        }

        int at(int i) {
            return i >= 0 && i < size ? cells[i] : 0;
        }

        void write(int i, int v) {
            if (i < 0 || i >= size) return;
            cells[i] = cut(v);
        }

        private int cut(int v) {
            if (lane == BYTES) return (byte) v;
            return lane == SHORTS ? (short) v : v;
        }
    }
}
