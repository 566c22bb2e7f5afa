import java.util.ArrayList;
import java.util.List;
import java.util.NoSuchElementException;
import java.util.regex.Matcher;
import java.util.regex.Pattern;

/**
 * The document's words done as slowly and plainly as they can be: every minute, every day, every order and all delays
 * are tried. ModelTest compares the program with it.
 */
final class PlainTime {
    private static final Pattern ITEM = Pattern.compile("[a-f]=[lcz]([+-][0-9]{1,3})?");
    private static final Pattern LAW = Pattern.compile(ITEM.pattern() + "(;" + ITEM.pattern() + ")*");

    private record Clock(int town, int day, int kind, int arg) { }

    private record Train(boolean up, int start, int stay) { }

    private record Law(int town, int day, String text) { }

    private static final class Tower {
        final int town;
        final int drift;
        int minute;

        Tower(int town, int minute, int drift) {
            this.town = town;
            this.minute = minute;
            this.drift = drift;
        }

        int errorAt(int at) {
            return (int) ((long) drift * (at - minute) / 1440);
        }
    }

    private final List<Integer> suns = new ArrayList<>();
    private final List<Clock> clocks = new ArrayList<>();
    private final List<int[]> stations = new ArrayList<>();
    private final List<Train> trains = new ArrayList<>();
    private int[] delays = new int[0];
    private final StringBuilder tape = new StringBuilder();
    private final List<Law> laws = new ArrayList<>();
    private final List<Tower> towers = new ArrayList<>();
    private List<Integer> told = new ArrayList<>();

    private static boolean within(int number, int least, int greatest) {
        return least <= number && number <= greatest;
    }

    private boolean isTown(int town) {
        return within(town, 0, suns.size() - 1);
    }

    private static boolean isMinute(int minute) {
        return within(minute, 0, 575999);
    }

    private static boolean isDay(int day) {
        return within(day, 0, 399);
    }

    private int shift(int town, int day) {
        Clock held = null;
        for (Clock clock : clocks) {
            if (clock.town == town && clock.day <= day && (held == null || clock.day >= held.day)) {
                held = clock;
            }
        }
        if (held == null || held.kind == 0) {
            return suns.get(town);
        }
        return held.kind == 1 ? 60 * held.arg : suns.get(held.arg);
    }

    private List<Integer> minutesShowing(int town, int reading) {
        List<Integer> minutes = new ArrayList<>();
        for (int day = 0; day < 400; day++) {
            int shift = shift(town, day);
            for (int minute = day * 1440; minute < day * 1440 + 1440; minute++) {
                if (minute + shift == reading) {
                    minutes.add(minute);
                }
            }
        }
        return minutes;
    }

    int town(int sun) {
        if (!within(sun, -720, 720) || suns.size() == 16) {
            return -1;
        }
        suns.add(sun);
        return suns.size() - 1;
    }

    int clock(int town, int day, int kind, int arg) {
        if (!isTown(town) || !isDay(day) || !within(kind, 0, 2) || clocks.size() == 60) {
            return -1;
        }
        if (kind == 1 && !within(arg, -12, 12)) {
            return -1;
        }
        if (kind == 2 && (!isTown(arg) || arg == town)) {
            return -1;
        }
        clocks.add(new Clock(town, day, kind, arg));
        return clocks.size();
    }

    int untell() {
        if (clocks.isEmpty()) {
            return -1;
        }
        clocks.remove(clocks.size() - 1);
        return clocks.size();
    }

    int count(int what) {
        int[] counts = {suns.size(), clocks.size(), stations.size(), trains.size(), laws.size(), towers.size(),
            told.size(), tape.length()};
        return within(what, 0, 7) ? counts[what] : -1;
    }

    int read(int town, int minute) {
        if (!isTown(town) || !isMinute(minute)) {
            throw new NoSuchElementException();
        }
        return minute + shift(town, minute / 1440);
    }

    int when(int town, int reading) {
        if (!isTown(town)) {
            return -1;
        }
        told = minutesShowing(town, reading);
        return told.size();
    }

    int turned(int a, int reading, int b) {
        if (!isTown(a) || !isTown(b)) {
            throw new NoSuchElementException();
        }
        List<Integer> minutes = minutesShowing(a, reading);
        if (minutes.isEmpty()) {
            throw new NoSuchElementException();
        }
        return read(b, minutes.get(0));
    }

    int unlike(int a, int b) {
        if (!isTown(a) || !isTown(b)) {
            return -1;
        }
        int days = 0;
        for (int day = 0; day < 400; day++) {
            days += shift(a, day) != shift(b, day) ? 1 : 0;
        }
        return days;
    }

    int one(int from) {
        if (!isDay(from)) {
            return -1;
        }
        for (int day = from; day < 400; day++) {
            boolean alike = true;
            for (int town = 0; town < suns.size(); town++) {
                alike &= shift(town, day) == shift(0, day);
            }
            if (alike) {
                return day;
            }
        }
        return -1;
    }

    int station(int town, int run) {
        if (!isTown(town) || stations.size() == 6 || !trains.isEmpty()) {
            return -1;
        }
        if (!stations.isEmpty() && !within(run, 1, 600)) {
            return -1;
        }
        stations.add(new int[] {town, run});
        return stations.size() - 1;
    }

    int train(boolean up, int day, int time, int stay) {
        if (!isDay(day) || !within(time, 0, 1439) || !within(stay, 0, 60) || stations.size() < 2 || trains.size() == 6) {
            return -1;
        }
        List<Integer> minutes = minutesShowing(stations.get(up ? 0 : stations.size() - 1)[0], day * 1440 + time);
        if (minutes.isEmpty()) {
            return -1;
        }
        trains.add(new Train(up, minutes.get(0), stay));
        delays = java.util.Arrays.copyOf(delays, trains.size());
        return trains.size() - 1;
    }

    /** For a train that goes with a delay: the minutes of leaving each station (coming to the last), by walking along. */
    private int[] walk(int number, int delay) {
        Train train = trains.get(number);
        int n = stations.size();
        int[] leaves = new int[n];
        int now = train.start + delay;
        for (int gone = 0; gone < n; gone++) {
            int station = train.up ? gone : n - 1 - gone;
            if (gone > 0) {
                now += stations.get(train.up ? station : station + 1)[1];
                if (gone < n - 1) {
                    now += train.stay;
                }
            }
            leaves[station] = now;
        }
        return leaves;
    }

    private int firstRun(int a, int delayA, int b, int delayB) {
        int[] leavesA = walk(a, delayA);
        int[] leavesB = walk(b, delayB);
        for (int run = 0; run + 1 < stations.size(); run++) {
            int length = stations.get(run + 1)[1];
            int fromA = leavesA[trains.get(a).up ? run : run + 1];
            int fromB = leavesB[trains.get(b).up ? run : run + 1];
            for (int minute = fromA; minute < fromA + length; minute++) {
                if (minute >= fromB && minute < fromB + length) {
                    return run;
                }
            }
        }
        return -1;
    }

    int leaves(int train, int station) {
        if (!within(train, 0, trains.size() - 1) || !within(station, 0, stations.size() - 1)) {
            return -1;
        }
        return walk(train, delays[train])[station];
    }

    boolean delay(int train, int v) {
        if (!within(train, 0, trains.size() - 1) || !within(v, 0, 30)) {
            return false;
        }
        delays[train] = v;
        return true;
    }

    int meet() {
        for (int a = 0; a < trains.size(); a++) {
            for (int b = a + 1; b < trains.size(); b++) {
                int run = firstRun(a, delays[a], b, delays[b]);
                if (run >= 0) {
                    told = new ArrayList<>(List.of(a, b, run));
                    return 1;
                }
            }
        }
        return 0;
    }

    int free() {
        int n = trains.size();
        boolean[][][][] meets = new boolean[n][n][7][7];
        for (int a = 0; a < n; a++) {
            for (int b = a + 1; b < n; b++) {
                for (int p = 0; p < 7; p++) {
                    for (int q = 0; q < 7; q++) {
                        meets[a][b][p][q] = firstRun(a, 5 * p, b, 5 * q) >= 0;
                    }
                }
            }
        }
        int all = (int) Math.round(Math.pow(7, n));
        int[] best = null;
        for (int code = 0; code < all; code++) {
            int[] tried = new int[n];
            int rest = code;
            for (int i = n - 1; i >= 0; i--) {
                tried[i] = rest % 7;
                rest /= 7;
            }
            if (isFree(tried, meets) && (best == null || isBetter(tried, best))) {
                best = tried;
            }
        }
        if (best == null) {
            return -1;
        }
        for (int i = 0; i < n; i++) {
            delays[i] = 5 * best[i];
        }
        return moved(best);
    }

    private static boolean isFree(int[] tried, boolean[][][][] meets) {
        for (int a = 0; a < tried.length; a++) {
            for (int b = a + 1; b < tried.length; b++) {
                if (meets[a][b][tried[a]][tried[b]]) {
                    return false;
                }
            }
        }
        return true;
    }

    private static int moved(int[] tried) {
        int moved = 0;
        for (int step : tried) {
            moved += step > 0 ? 1 : 0;
        }
        return moved;
    }

    private static boolean isBetter(int[] tried, int[] best) {
        if (moved(tried) != moved(best)) {
            return moved(tried) < moved(best);
        }
        int sum = java.util.Arrays.stream(tried).sum();
        int bestSum = java.util.Arrays.stream(best).sum();
        return sum != bestSum ? sum < bestSum : java.util.Arrays.compare(tried, best) < 0;
    }

    int close() {
        int were = trains.size();
        trains.clear();
        stations.clear();
        delays = new int[0];
        return were;
    }

    int sign(int v) {
        if (tape.length() + 4 > 100) {
            return -1;
        }
        tape.append((char) (v >>> 24)).append((char) (v >> 16 & 255)).append((char) (v >> 8 & 255));
        tape.append((char) (v & 255));
        return tape.length();
    }

    boolean end(int n) {
        if (!within(n, 0, tape.length())) {
            return false;
        }
        tape.setLength(n);
        return true;
    }

    private static boolean couldGoOnOrEnd(String text) {
        Matcher matcher = LAW.matcher(text);
        return matcher.matches() || matcher.hitEnd();
    }

    int law(int town, int day) {
        String text = tape.toString();
        tape.setLength(0);
        if (!isTown(town) || !isDay(day) || laws.size() == 20) {
            return -100;
        }
        for (int place = 0; place < text.length() && place < 40; place++) {
            if (!couldGoOnOrEnd(text.substring(0, place + 1))) {
                return -1 - place;
            }
        }
        if (text.length() > 40) {
            return -41;
        }
        if (!LAW.matcher(text).matches()) {
            return -1 - text.length();
        }
        laws.add(new Law(town, day, text));
        return laws.size();
    }

    private int lawShift(int town, int matter, int day) {
        Law held = null;
        for (Law law : laws) {
            if (law.town == town && law.day <= day && (held == null || law.day >= held.day)) {
                held = law;
            }
        }
        int shift = shift(town, day);
        if (held == null) {
            return shift;
        }
        for (String item : held.text.split(";")) {
            if (item.charAt(0) == 'a' + matter) {
                int more = item.length() > 3 ? Integer.parseInt(item.substring(3)) : 0;
                shift = base(item.charAt(2), town, day) + more;
            }
        }
        return shift;
    }

    private int base(char time, int town, int day) {
        int sun = suns.get(town);
        if (time == 'l') {
            return sun;
        }
        if (time == 'c') {
            return shift(town, day);
        }
        int nearest = -720;
        for (int zone = -720; zone <= 720; zone += 60) {
            if (Math.abs(zone - sun) <= Math.abs(nearest - sun)) {
                nearest = zone;
            }
        }
        return nearest;
    }

    int judged(int town, int matter, int minute) {
        if (!isTown(town) || !within(matter, 0, 5) || !isMinute(minute)) {
            throw new NoSuchElementException();
        }
        return minute + lawShift(town, matter, minute / 1440);
    }

    int late(int town, int matter, int from, int to, int time, int limit) {
        if (!isTown(town) || !within(matter, 0, 5) || !isDay(from) || !isDay(to) || from > to
                || !within(time, 0, 1439) || !within(limit, 0, 1439)) {
            return -1;
        }
        int days = 0;
        for (int day = from; day <= to; day++) {
            int reading = judged(town, matter, day * 1440 + time);
            // Some days more, so that no reading is below 0: the time of day stays the same.
            days += (reading + 14400) % 1440 > limit ? 1 : 0;
        }
        return days;
    }

    int tower(int town, int minute, int drift) {
        if (!isTown(town) || !isMinute(minute) || !within(drift, -600, 600) || towers.size() == 7) {
            return -1;
        }
        towers.add(new Tower(town, minute, drift));
        return towers.size() - 1;
    }

    int error(int tower, int minute) {
        if (!within(tower, 0, towers.size() - 1) || !isMinute(minute) || towers.get(tower).minute > minute) {
            throw new NoSuchElementException();
        }
        return towers.get(tower).errorAt(minute);
    }

    int set(int tower, int minute) {
        int error = error(tower, minute);
        towers.get(tower).minute = minute;
        return error;
    }

    int round(int town, int minute) {
        if (!isTown(town) || !isMinute(minute) || towers.isEmpty()) {
            return -1;
        }
        for (Tower tower : towers) {
            if (tower.minute > minute) {
                return -1;
            }
        }
        int[][] best = new int[1][];
        tryOrders(new ArrayList<>(), town, minute, best);
        int n = towers.size();
        if (best[0][1] > 575999) {
            return -1;
        }
        told = new ArrayList<>();
        for (int i = 0; i < n; i++) {
            told.add(best[0][2 + i]);
        }
        told.add(best[0][1]);
        return best[0][0];
    }

    /** All orders; each is kept as its greatest error, its end and its towers, so that the least such row is the best. */
    private void tryOrders(List<Integer> order, int town, int minute, int[][] best) {
        if (order.size() == towers.size()) {
            int[] row = new int[2 + order.size()];
            int now = minute;
            int at = town;
            for (int i = 0; i < order.size(); i++) {
                Tower tower = towers.get(order.get(i));
                now += 10 * Math.abs(suns.get(at) - suns.get(tower.town));
                row[0] = Math.max(row[0], Math.abs(tower.errorAt(now)));
                now += 30;
                at = tower.town;
                row[2 + i] = order.get(i);
            }
            row[1] = now;
            if (best[0] == null || java.util.Arrays.compare(row, best[0]) < 0) {
                best[0] = row;
            }
            return;
        }
        for (int tower = 0; tower < towers.size(); tower++) {
            if (!order.contains(tower)) {
                order.add(tower);
                tryOrders(order, town, minute, best);
                order.remove(order.size() - 1);
            }
        }
    }

    int row(int i) {
        if (!within(i, 0, told.size() - 1)) {
            throw new NoSuchElementException();
        }
        return told.get(i);
    }
}
