import java.util.NoSuchElementException;

/**
 * One time for all: towns and their clocks, trains on a line with one track, laws of towns, tower clocks.
 * The document's promises are the contract; the words that it writes in capitals are used here as it tells them.
 */
public final class OneTime {
    public static final int NONE = -1;

    private static final int DAYS = 400;
    private static final int DAY_MINUTES = 1440;
    private static final int MINUTES = DAYS * DAY_MINUTES;
    private static final int MOST_SHIFT = 720;

    private static final int MOST_TOWNS = 16;
    private static final int MOST_CLOCKS = 60;
    private static final int MOST_ZONE = 12;
    private static final int ZONE_MINUTES = 60;
    private static final int KIND_SUN = 0;
    private static final int KIND_ZONE = 1;
    private static final int KIND_RAIL = 2;

    private static final int MOST_STATIONS = 6;
    private static final int MOST_RUN = 600;
    private static final int MOST_TRAINS = 6;
    private static final int MOST_STAY = 60;
    private static final int MOST_DELAY = 30;

    private static final int MOST_SIGNS = 100;
    private static final int MOST_LAW_SIGNS = 40;
    private static final int MOST_LAWS = 20;
    private static final int MATTERS = 6;
    private static final int LAW_REFUSED = -100;

    private static final int MOST_TOWERS = 7;
    private static final int MOST_DRIFT = 600;
    private static final int MOST_ROW = MOST_TOWERS + 1;

    private final Towns towns;
    private final Line line;
    private final DelaySearch delaySearch;
    private final Tape tape;
    private final Laws laws;
    private final Towers towers;
    private final RoundSearch roundSearch;
    private final Row told;

    public OneTime() {
        towns = new Towns();
        line = new Line();
        delaySearch = new DelaySearch();
        tape = new Tape();
        laws = new Laws();
        towers = new Towers();
        roundSearch = new RoundSearch();
        told = new Row();
    }

    // ---- towns, clocks

    public int town(int sun) {
        if (sun < -MOST_SHIFT || sun > MOST_SHIFT) {
            return NONE;
        }
        return towns.settle(sun);
    }

    public int clock(int town, int day, int kind, int arg) {
        if (!towns.has(town) || !isDay(day) || !towns.isClock(town, kind, arg)) {
            return NONE;
        }
        return towns.tellClock(town, day, towns.shiftOfKind(town, kind, arg));
    }

    public int untell() {
        return towns.takeClockBack();
    }

    public int count(int what) {
        switch (what) {
            case 0:
                return towns.size;
            case 1:
                return towns.clocks.size;
            case 2:
                return line.stations;
            case 3:
                return line.trains;
            case 4:
                return laws.since.size;
            case 5:
                return towers.size;
            case 6:
                return told.size;
            case 7:
                return tape.size;
            default:
                return NONE;
        }
    }

    public int read(int town, int minute) throws NoSuchElementException {
        if (!towns.has(town) || !isMinute(minute)) {
            throw new NoSuchElementException("no such town or minute");
        }
        return towns.readingAt(town, minute);
    }

    public int when(int town, int reading) {
        if (!towns.has(town)) {
            return NONE;
        }
        told.clear();
        int day = Towns.firstDayNear(reading);
        told.addMinute(towns.minuteShowing(town, day, reading));
        told.addMinute(towns.minuteShowing(town, day + 1, reading));
        return told.size;
    }

    public int turned(int a, int reading, int b) throws NoSuchElementException {
        if (!towns.has(a) || !towns.has(b)) {
            throw new NoSuchElementException("no such towns");
        }
        int minute = towns.firstShowing(a, reading);
        if (minute == NONE) {
            throw new NoSuchElementException("the clock never shows this");
        }
        return towns.readingAt(b, minute);
    }

    public int unlike(int a, int b) {
        if (!towns.has(a) || !towns.has(b)) {
            return NONE;
        }
        return towns.daysUnlike(a, b);
    }

    public int one(int day) {
        return isDay(day) ? towns.firstDayAlike(day) : NONE;
    }

    // ---- trains

    public int station(int town, int run) {
        if (!towns.has(town)) {
            return NONE;
        }
        return line.build(town, run);
    }

    public int train(boolean up, int day, int time, int stay) {
        if (!isDay(day) || !isTimeOfDay(time) || stay < 0 || stay > MOST_STAY || !line.takesTrains()) {
            return NONE;
        }
        int start = towns.firstShowing(line.firstTown(up), day * DAY_MINUTES + time);
        return start == NONE ? NONE : line.addTrain(up, start, stay);
    }

    public int leaves(int train, int station) {
        if (!line.hasTrain(train) || !line.hasStation(station)) {
            return NONE;
        }
        return line.plannedAt(train, station) + line.delays[train];
    }

    public boolean delay(int train, int v) {
        if (!line.hasTrain(train) || v < 0 || v > MOST_DELAY) {
            return false;
        }
        line.delays[train] = v;
        return true;
    }

    public int meet() {
        for (int first = 0; first < line.trains; first++) {
            for (int other = first + 1; other < line.trains; other++) {
                int run = line.firstRunMeeting(first, other);
                if (run != NONE) {
                    told.clear();
                    told.add(first);
                    told.add(other);
                    told.add(run);
                    return 1;
                }
            }
        }
        return 0;
    }

    public int free() {
        return delaySearch.settleBest(line);
    }

    public int close() {
        return line.clear();
    }

    // ---- laws

    public int sign(int v) {
        return tape.addFour(v);
    }

    public boolean end(int n) {
        return tape.cut(n);
    }

    public int law(int town, int day) {
        boolean refused = !towns.has(town) || !isDay(day) || laws.isFull();
        int answer = refused ? LAW_REFUSED : laws.tell(town, day, tape);
        tape.clear();
        return answer;
    }

    public int judged(int town, int matter, int minute) throws NoSuchElementException {
        if (!towns.has(town) || !isMatter(matter) || !isMinute(minute)) {
            throw new NoSuchElementException("no such town, matter or minute");
        }
        return minute + shiftFor(town, matter, minute / DAY_MINUTES);
    }

    public int late(int town, int matter, int from, int to, int time, int limit) {
        if (!towns.has(town) || !isMatter(matter) || !isDay(from) || !isDay(to) || from > to) {
            return NONE;
        }
        if (!isTimeOfDay(time) || !isTimeOfDay(limit)) {
            return NONE;
        }
        int days = 0;
        int day = from;
        // One turn for each stretch of days on which neither the clock nor the law changes.
        for (int turn = 0; turn < DAYS && day <= to; turn++) {
            int next = Math.min(nextChange(town, day), to + 1);
            if (Math.floorMod(time + shiftFor(town, matter, day), DAY_MINUTES) > limit) {
                days += next - day;
            }
            day = next;
        }
        return days;
    }

    // ---- towers

    public int tower(int town, int minute, int drift) {
        if (!towns.has(town) || !isMinute(minute) || drift < -MOST_DRIFT || drift > MOST_DRIFT) {
            return NONE;
        }
        return towers.build(towns.suns[town], minute, drift);
    }

    public int error(int tower, int minute) throws NoSuchElementException {
        if (!isMinute(minute) || !towers.isSetBy(tower, minute)) {
            throw new NoSuchElementException("no such tower or minute");
        }
        return towers.errorAt(tower, minute);
    }

    public int set(int tower, int minute) throws NoSuchElementException {
        if (!isMinute(minute) || !towers.isSetBy(tower, minute)) {
            throw new NoSuchElementException("no such tower or minute");
        }
        int error = towers.errorAt(tower, minute);
        towers.setMinutes[tower] = minute;
        return error;
    }

    public int round(int town, int minute) {
        if (!towns.has(town) || !isMinute(minute) || towers.size == 0 || !towers.areAllSetBy(minute)) {
            return NONE;
        }
        roundSearch.seek(towers, towns.suns[town], minute);
        if (roundSearch.bestEnd >= MINUTES) {
            return NONE;
        }
        told.clear();
        for (int i = 0; i < towers.size; i++) {
            told.add(roundSearch.best[i]);
        }
        told.add(roundSearch.bestEnd);
        return roundSearch.bestWorst;
    }

    public int row(int i) throws NoSuchElementException {
        if (i < 0 || i >= told.size) {
            throw new NoSuchElementException("the row has no such number");
        }
        return told.numbers[i];
    }

    // ---- what several calls ask

    private static boolean isDay(int day) {
        return day >= 0 && day < DAYS;
    }

    private static boolean isMinute(int minute) {
        return minute >= 0 && minute < MINUTES;
    }

    private static boolean isTimeOfDay(int time) {
        return time >= 0 && time < DAY_MINUTES;
    }

    private static boolean isMatter(int matter) {
        return matter >= 0 && matter < MATTERS;
    }

    /** How far from the MINUTE it is for a matter in a town on a day. */
    private int shiftFor(int town, int matter, int day) {
        int byClock = towns.shiftOn(town, day);
        int law = laws.since.holding(town, day);
        if (law == NONE) {
            return byClock;
        }
        int more = laws.moreOf(law, matter);
        switch (laws.timeOf(law, matter)) {
            case 'l':
                return towns.suns[town] + more;
            case 'z':
                return towns.nearestZone(town) + more;
            default:
                return byClock + more;
        }
    }

    /** The first day behind a day from which another clock or law of a town is told, DAYS if there is none. */
    private int nextChange(int town, int day) {
        return Math.min(towns.clocks.nextDay(town, day), laws.since.nextDay(town, day));
    }

    /** The numbers that a call told last. */
    private static final class Row {
        final int[] numbers = new int[MOST_ROW];
        int size = 0;

        void clear() {
            size = 0;
        }

        void add(int number) {
            if (size < numbers.length) {
                numbers[size] = number;
                size++;
            }
        }

        void addMinute(int minute) {
            if (minute != NONE) {
                add(minute);
            }
        }
    }

    /** Things that are told of towns from days on, in the order of telling: clocks and laws alike. */
    private static final class Since {
        private final int[] ofTowns;
        private final int[] fromDays;
        int size = 0;

        Since(int most) {
            ofTowns = new int[Math.max(most, 0)];
            fromDays = new int[Math.max(most, 0)];
        }

        boolean isFull() {
            return size >= ofTowns.length;
        }

        /** Callers ask isFull first, so that what belongs to the entry is kept at the same place. */
        void add(int town, int day) {
            if (size < ofTowns.length && size < fromDays.length) {
                ofTowns[size] = town;
                fromDays[size] = day;
                size++;
            }
        }

        void dropLast() {
            if (size > 0) {
                size--;
            }
        }

        /** The place of what holds in a town on a day, or NONE. */
        int holding(int town, int day) {
            int found = NONE;
            int foundDay = 0;
            for (int i = 0; i < size; i++) {
                // Days are 0 or more, so >= also takes the first one, and of equal ones the one told last.
                if (ofTowns[i] == town && fromDays[i] <= day && fromDays[i] >= foundDay) {
                    found = i;
                    foundDay = fromDays[i];
                }
            }
            return found;
        }

        /** The first day behind a day from which something is told of a town, DAYS if there is none. */
        int nextDay(int town, int day) {
            int next = DAYS;
            for (int i = 0; i < size; i++) {
                if (ofTowns[i] == town && fromDays[i] > day && fromDays[i] < next) {
                    next = fromDays[i];
                }
            }
            return next;
        }

        int nextDayOfAny(int day) {
            int next = DAYS;
            for (int i = 0; i < size; i++) {
                if (fromDays[i] > day && fromDays[i] < next) {
                    next = fromDays[i];
                }
            }
            return next;
        }
    }

    /** Towns and their clocks; a clock is kept as its shift, for the suns that it goes by never change. */
    private static final class Towns {
        final int[] suns = new int[MOST_TOWNS];
        int size = 0;
        final Since clocks = new Since(MOST_CLOCKS);
        private final int[] shifts = new int[MOST_CLOCKS];

        boolean has(int town) {
            return town >= 0 && town < size;
        }

        int settle(int sun) {
            if (size >= MOST_TOWNS) {
                return NONE;
            }
            suns[size] = sun;
            size++;
            return size - 1;
        }

        boolean isClock(int town, int kind, int arg) {
            switch (kind) {
                case KIND_SUN:
                    return true;
                case KIND_ZONE:
                    return arg >= -MOST_ZONE && arg <= MOST_ZONE;
                case KIND_RAIL:
                    return has(arg) && arg != town;
                default:
                    return false;
            }
        }

        int shiftOfKind(int town, int kind, int arg) {
            switch (kind) {
                case KIND_ZONE:
                    return ZONE_MINUTES * arg;
                case KIND_RAIL:
                    return sunOf(arg);
                default:
                    return sunOf(town);
            }
        }

        int sunOf(int town) {
            return has(town) ? suns[town] : 0;
        }

        int tellClock(int town, int day, int shift) {
            if (clocks.isFull()) {
                return NONE;
            }
            shifts[clocks.size] = shift;
            clocks.add(town, day);
            return clocks.size;
        }

        int takeClockBack() {
            if (clocks.size == 0) {
                return NONE;
            }
            clocks.dropLast();
            return clocks.size;
        }

        int shiftOn(int town, int day) {
            int clock = clocks.holding(town, day);
            return clock == NONE ? sunOf(town) : shifts[clock];
        }

        int readingAt(int town, int minute) {
            return minute + shiftOn(town, minute / DAY_MINUTES);
        }

        int nearestZone(int town) {
            return ZONE_MINUTES * Math.floorDiv(sunOf(town) + ZONE_MINUTES / 2, ZONE_MINUTES);
        }

        /**
         * Clocks are at most MOST_SHIFT off, so a reading can be shown on this day and the next one alone;
         * DAYS for readings that no clock ever shows.
         */
        static int firstDayNear(int reading) {
            if (reading < -MOST_SHIFT || reading >= MINUTES + MOST_SHIFT) {
                return DAYS;
            }
            return Math.floorDiv(reading - MOST_SHIFT, DAY_MINUTES);
        }

        /** The minute of a day at which a town's clock shows a reading, or NONE. */
        int minuteShowing(int town, int day, int reading) {
            if (!isDay(day)) {
                return NONE;
            }
            int minute = reading - shiftOn(town, day);
            return Math.floorDiv(minute, DAY_MINUTES) == day ? minute : NONE;
        }

        int firstShowing(int town, int reading) {
            int day = firstDayNear(reading);
            int minute = minuteShowing(town, day, reading);
            return minute != NONE ? minute : minuteShowing(town, day + 1, reading);
        }

        int daysUnlike(int a, int b) {
            int days = 0;
            int day = 0;
            for (int turn = 0; turn < DAYS && day < DAYS; turn++) {
                int next = Math.min(clocks.nextDay(a, day), clocks.nextDay(b, day));
                if (shiftOn(a, day) != shiftOn(b, day)) {
                    days += next - day;
                }
                day = next;
            }
            return days;
        }

        int firstDayAlike(int from) {
            int day = from;
            for (int turn = 0; turn < DAYS && day < DAYS; turn++) {
                if (areAlikeOn(day)) {
                    return day;
                }
                day = clocks.nextDayOfAny(day);
            }
            return NONE;
        }

        private boolean areAlikeOn(int day) {
            int shift = shiftOn(0, day);
            for (int town = 1; town < size; town++) {
                if (shiftOn(town, day) != shift) {
                    return false;
                }
            }
            return true;
        }
    }

    /** Stations and trains. */
    private static final class Line {
        int stations = 0;
        private final int[] ofTowns = new int[MOST_STATIONS];
        // The minutes of all runs from station 0 to each one, stays left out.
        private final int[] ways = new int[MOST_STATIONS];

        int trains = 0;
        private final boolean[] ups = new boolean[MOST_TRAINS];
        private final int[] starts = new int[MOST_TRAINS];
        private final int[] stays = new int[MOST_TRAINS];
        final int[] delays = new int[MOST_TRAINS];

        boolean hasStation(int station) {
            return station >= 0 && station < stations;
        }

        boolean hasTrain(int train) {
            return train >= 0 && train < trains;
        }

        int build(int town, int run) {
            if (stations >= MOST_STATIONS || trains > 0) {
                return NONE;
            }
            if (stations > 0) {
                if (run < 1 || run > MOST_RUN) {
                    return NONE;
                }
                ways[stations] = ways[stations - 1] + run;
            }
            ofTowns[stations] = town;
            stations++;
            return stations - 1;
        }

        boolean takesTrains() {
            return stations >= 2 && trains < MOST_TRAINS;
        }

        int firstTown(boolean up) {
            int first = up ? 0 : stations - 1;
            return hasStation(first) ? ofTowns[first] : NONE;
        }

        int addTrain(boolean up, int start, int stay) {
            if (trains >= MOST_TRAINS) {
                return NONE;
            }
            ups[trains] = up;
            starts[trains] = start;
            stays[trains] = stay;
            delays[trains] = 0;
            trains++;
            return trains - 1;
        }

        int clear() {
            int were = trains;
            trains = 0;
            stations = 0;
            return were;
        }

        /** When a train without delay leaves a station, or comes there if it is its last one. */
        int plannedAt(int train, int station) {
            if (!hasTrain(train) || !hasStation(station)) {
                return NONE;
            }
            int last = stations - 1;
            int passed = ups[train] ? station : last - station;
            int way = ups[train] ? ways[station] : ways[last] - ways[station];
            int stops = passed == last ? passed - 1 : passed;
            return starts[train] + way + stays[train] * stops;
        }

        /** When a train without delay comes on a run. */
        private int plannedOnRun(int train, int run) {
            return plannedAt(train, hasTrain(train) && ups[train] ? run : run + 1);
        }

        private int lengthOf(int run) {
            return hasStation(run) && hasStation(run + 1) ? ways[run + 1] - ways[run] : 0;
        }

        /** The first run on which two trains meet with the delays that they have, or NONE. */
        int firstRunMeeting(int first, int other) {
            if (!hasTrain(first) || !hasTrain(other)) {
                return NONE;
            }
            return firstRunMeetingWith(first, other, delays[other] - delays[first]);
        }

        /** The same, if the other one's delay is so much more than the first one's. */
        int firstRunMeetingWith(int first, int other, int more) {
            for (int run = 0; run < stations - 1; run++) {
                int apart = plannedOnRun(other, run) - plannedOnRun(first, run) + more;
                // Both need as long for the run, so they share a minute if they begin less than that apart.
                if (Math.abs(apart) < lengthOf(run)) {
                    return run;
                }
            }
            return NONE;
        }
    }

    /** Seeks the best delays: each is a number of steps of five minutes. */
    private static final class DelaySearch {
        private static final int STEP = 5;
        private static final int MOST_STEPS = MOST_DELAY / STEP;
        private static final int ALL_STEPS = (1 << (MOST_STEPS + 1)) - 1;
        // A moved train weighs more than all steps together: then one number orders by moved and sum.
        private static final int MOVED_COST = 64;
        private static final int NO_COST = MOVED_COST * (MOST_TRAINS + 1);

        // For two trains the bits of the differences of steps, MOST_STEPS added, with which they do not meet.
        private final int[][] apart = new int[MOST_TRAINS][MOST_TRAINS];
        // For each number of trains that have their delays, the bits of steps that are left to each train.
        private final int[][] open = new int[MOST_TRAINS + 1][MOST_TRAINS];
        private final int[] steps = new int[MOST_TRAINS];
        private final int[] best = new int[MOST_TRAINS];
        private int trains = 0;
        private int bestCost = NO_COST;

        /** Gives the trains of a line the best delays: how many are moved, or NONE. */
        int settleBest(Line line) {
            trains = Math.min(line.trains, MOST_TRAINS);
            bestCost = NO_COST;
            for (int first = 0; first < trains; first++) {
                open[0][first] = ALL_STEPS;
                for (int other = first + 1; other < trains; other++) {
                    apart[first][other] = stepsApart(line, first, other);
                }
            }
            place(0, 0);
            if (bestCost == NO_COST) {
                return NONE;
            }
            for (int train = 0; train < trains; train++) {
                line.delays[train] = best[train] * STEP;
            }
            return bestCost / MOVED_COST;
        }

        private static int stepsApart(Line line, int first, int other) {
            int bits = 0;
            for (int more = -MOST_STEPS; more <= MOST_STEPS; more++) {
                if (line.firstRunMeetingWith(first, other, more * STEP) == NONE) {
                    bits |= 1 << (more + MOST_STEPS);
                }
            }
            return bits;
        }

        private static int leastStep(int bits) {
            return Integer.bitCount((bits & -bits) - 1);
        }

        private static int costOf(int step) {
            return step == 0 ? 0 : MOVED_COST + step;
        }

        /** Tries steps in ascending order, so that of equal ones the one that is found first stays. */
        private void place(int train, int cost) {
            if (train < 0 || train >= trains || train >= MOST_TRAINS) {
                keep(cost);
                return;
            }
            for (int step = 0; step <= MOST_STEPS; step++) {
                if ((open[train][train] & (1 << step)) != 0) {
                    steps[train] = step;
                    int soFar = cost + costOf(step);
                    if (soFar + costOfOthers(train, step) < bestCost) {
                        place(train + 1, soFar);
                    }
                }
            }
        }

        /** Leaves the trains behind one the steps that its step allows: the least that they must cost. */
        private int costOfOthers(int train, int step) {
            int cost = 0;
            for (int other = train + 1; other < trains; other++) {
                int left = open[train][other] & (apart[train][other] >> (MOST_STEPS - step));
                if (left == 0) {
                    return NO_COST;
                }
                open[train + 1][other] = left;
                cost += costOf(leastStep(left));
            }
            return cost;
        }

        private void keep(int cost) {
            bestCost = cost;
            for (int train = 0; train < trains; train++) {
                best[train] = steps[train];
            }
        }
    }

    /** The signs that come in by fours. */
    private static final class Tape {
        private final int[] signs = new int[MOST_SIGNS];
        int size = 0;

        int addFour(int v) {
            if (size + 4 > MOST_SIGNS) {
                return NONE;
            }
            for (int shift = 24; shift >= 0; shift -= 8) {
                signs[size] = (v >>> shift) & 255;
                size++;
            }
            return size;
        }

        boolean cut(int n) {
            if (n < 0 || n > size) {
                return false;
            }
            size = n;
            return true;
        }

        void clear() {
            size = 0;
        }

        int signAt(int place) {
            return place >= 0 && place < size ? signs[place] : NONE;
        }
    }

    /** Laws as they were told: for each the time that each matter goes by, and how many minutes more. */
    private static final class Laws {
        final Since since = new Since(MOST_LAWS);
        private final LawReader reader = new LawReader();
        private final int[] times = new int[MOST_LAWS * MATTERS];
        private final int[] mores = new int[MOST_LAWS * MATTERS];

        boolean isFull() {
            return since.isFull();
        }

        /** How many laws there are with this one, or -1 - p for a text that is none. */
        int tell(int town, int day, Tape tape) {
            if (isFull()) {
                return LAW_REFUSED;
            }
            int wrong = reader.take(tape);
            if (wrong != NONE) {
                return -1 - wrong;
            }
            int place = since.size * MATTERS;
            for (int matter = 0; matter < MATTERS; matter++) {
                times[place + matter] = reader.times[matter];
                mores[place + matter] = reader.mores[matter];
            }
            since.add(town, day);
            return since.size;
        }

        private boolean has(int law, int matter) {
            return law >= 0 && law < since.size && isMatter(matter);
        }

        int timeOf(int law, int matter) {
            return has(law, matter) ? times[law * MATTERS + matter] : 'c';
        }

        int moreOf(int law, int matter) {
            return has(law, matter) ? mores[law * MATTERS + matter] : 0;
        }
    }

    /** Takes a law's text sign by sign. */
    private static final class LawReader {
        // What comes next; from AFTER_TIME on the text may also end.
        private static final int MATTER = 0;
        private static final int EQUALS = 1;
        private static final int TIME = 2;
        private static final int FIRST_DIGIT = 3;
        private static final int AFTER_TIME = 4;
        private static final int AFTER_DIGIT = 5;
        private static final int MOST_DIGITS = 3;

        final int[] times = new int[MATTERS];
        final int[] mores = new int[MATTERS];
        private int state = MATTER;
        private int matter = 0;
        private int sense = 1;
        private int digits = 0;

        /** The place of the first sign that can't stand there, or NONE if the text is a law. */
        int take(Tape tape) {
            state = MATTER;
            for (int i = 0; i < MATTERS; i++) {
                times[i] = 'c';
                mores[i] = 0;
            }
            int most = Math.min(tape.size, MOST_LAW_SIGNS);
            for (int place = 0; place < most; place++) {
                if (!takeSign(tape.signAt(place))) {
                    return place;
                }
            }
            return tape.size > MOST_LAW_SIGNS || state < AFTER_TIME ? most : NONE;
        }

        private boolean takeSign(int sign) {
            switch (state) {
                case MATTER:
                    return takeMatter(sign);
                case EQUALS:
                    return takeMark(sign, '=', TIME);
                case TIME:
                    return takeTime(sign);
                case FIRST_DIGIT:
                    return takeDigit(sign);
                case AFTER_TIME:
                    return takeSense(sign) || takeMark(sign, ';', MATTER);
                default:
                    return takeDigit(sign) || takeMark(sign, ';', MATTER);
            }
        }

        private boolean takeMatter(int sign) {
            if (sign < 'a' || sign > 'f') {
                return false;
            }
            matter = sign - 'a';
            state = EQUALS;
            return true;
        }

        private boolean takeTime(int sign) {
            if ((sign != 'l' && sign != 'c' && sign != 'z') || !isMatter(matter)) {
                return false;
            }
            times[matter] = sign;
            // An earlier item of this matter no longer holds.
            mores[matter] = 0;
            state = AFTER_TIME;
            return true;
        }

        private boolean takeSense(int sign) {
            if (sign != '+' && sign != '-') {
                return false;
            }
            sense = sign == '+' ? 1 : -1;
            digits = 0;
            state = FIRST_DIGIT;
            return true;
        }

        private boolean takeDigit(int sign) {
            if (sign < '0' || sign > '9' || digits >= MOST_DIGITS || !isMatter(matter)) {
                return false;
            }
            mores[matter] = mores[matter] * 10 + sense * (sign - '0');
            digits++;
            state = AFTER_DIGIT;
            return true;
        }

        private boolean takeMark(int sign, int mark, int next) {
            if (sign != mark) {
                return false;
            }
            state = next;
            return true;
        }
    }

    /** Tower clocks; of its town a tower keeps the sun, all that a round asks for. */
    private static final class Towers {
        int size = 0;
        private final int[] suns = new int[MOST_TOWERS];
        final int[] setMinutes = new int[MOST_TOWERS];
        private final int[] drifts = new int[MOST_TOWERS];

        boolean has(int tower) {
            return tower >= 0 && tower < size;
        }

        int build(int sun, int minute, int drift) {
            if (size >= MOST_TOWERS) {
                return NONE;
            }
            suns[size] = sun;
            setMinutes[size] = minute;
            drifts[size] = drift;
            size++;
            return size - 1;
        }

        boolean isSetBy(int tower, int minute) {
            return has(tower) && setMinutes[tower] <= minute;
        }

        boolean areAllSetBy(int minute) {
            for (int tower = 0; tower < size; tower++) {
                if (setMinutes[tower] > minute) {
                    return false;
                }
            }
            return true;
        }

        int sunOf(int tower) {
            return has(tower) ? suns[tower] : 0;
        }

        int errorAt(int tower, int minute) {
            return has(tower) ? drifts[tower] * (minute - setMinutes[tower]) / DAY_MINUTES : 0;
        }
    }

    /** Seeks the best round over all towers. */
    private static final class RoundSearch {
        private static final int MINUTES_APART = 10;
        private static final int MINUTES_AT_TOWER = 30;

        private final int[] order = new int[MOST_TOWERS];
        final int[] best = new int[MOST_TOWERS];
        int bestWorst = 0;
        int bestEnd = 0;

        void seek(Towers towers, int sun, int minute) {
            bestWorst = Integer.MAX_VALUE;
            bestEnd = Integer.MAX_VALUE;
            goOn(towers, 0, (1 << towers.size) - 1, sun, minute, 0);
        }

        /** Tries towers in ascending order, so that of equal rounds the one that is found first stays. */
        private void goOn(Towers towers, int gone, int left, int sun, int now, int worst) {
            if (gone < 0 || gone >= towers.size || gone >= MOST_TOWERS) {
                keep(gone, now, worst);
                return;
            }
            for (int tower = 0; tower < towers.size; tower++) {
                if ((left & (1 << tower)) != 0) {
                    int there = towers.sunOf(tower);
                    int comes = now + minutesBetween(sun, there);
                    int size = Math.max(worst, sizeOfError(towers, tower, comes));
                    int rest = left & ~(1 << tower);
                    if (canBeBetter(towers, rest, there, comes + MINUTES_AT_TOWER, size)) {
                        order[gone] = tower;
                        goOn(towers, gone + 1, rest, there, comes + MINUTES_AT_TOWER, size);
                    }
                }
            }
        }

        private static int minutesBetween(int sun, int other) {
            return MINUTES_APART * Math.abs(sun - other);
        }

        private static int sizeOfError(Towers towers, int tower, int minute) {
            return Math.abs(towers.errorAt(tower, minute));
        }

        /** No error of the rest is less than if its tower came next, no way shorter than over the nearer end. */
        private boolean canBeBetter(Towers towers, int rest, int sun, int now, int worst) {
            int low = sun;
            int high = sun;
            int stops = 0;
            int size = worst;
            for (int tower = 0; tower < towers.size; tower++) {
                if ((rest & (1 << tower)) != 0) {
                    int there = towers.sunOf(tower);
                    low = Math.min(low, there);
                    high = Math.max(high, there);
                    size = Math.max(size, sizeOfError(towers, tower, now + minutesBetween(sun, there)));
                    stops++;
                }
            }
            int way = high - low + Math.min(sun - low, high - sun);
            int end = now + MINUTES_AT_TOWER * stops + MINUTES_APART * way;
            return size < bestWorst || (size == bestWorst && end < bestEnd);
        }

        private void keep(int gone, int end, int worst) {
            bestWorst = worst;
            bestEnd = end;
            for (int i = 0; i < gone && i < MOST_TOWERS; i++) {
                best[i] = order[i];
            }
        }
    }
}
