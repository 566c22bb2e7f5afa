import java.util.NoSuchElementException;
import java.util.Random;

/** All promises: long runs of calls by chance (from written seeds), each answer compared with that of PlainTime. */
public final class ModelTest {
    // An object is used for 512 calls; a step of a run makes at most 40.
    private static final int CALLS = 512 - 40;
    private static final long THROWN = Long.MIN_VALUE;
    private static final int BUSY_LINE = 99;
    private static final Checks CHECKS = new Checks("ModelTest");

    private final Random chance;
    private final OneTime x = new OneTime();
    private final PlainTime plain = new PlainTime();
    // The towns' suns and the trains' starts lie as close as this, so that much is alike or meets.
    private final int spread;
    private String call = "";
    private int calls = 0;
    private int toldTown = 0;
    private int toldDay = 0;

    private ModelTest(long seed) {
        // Seeds close to one another begin alike, so they are spread first.
        chance = new Random(seed * 0x9E3779B97F4A7C15L);
        spread = new int[] {1, 3, 13, 40, 200, 721}[chance.nextInt(6)];
    }

    public static void main(String[] args) {
        for (int seed = 1; seed <= 600; seed++) {
            new ModelTest(seed).run(seed);
        }
        CHECKS.finish();
    }

    private void run(int seed) {
        int subject = seed % 5;
        int towns = 1 + chance.nextInt(6);
        for (int i = 0; i < towns; i++) {
            compareCall(seed, 0);
        }
        while (calls < CALLS) {
            int before = calls;
            int kind = kindOfCall(subject);
            compareCall(seed, kind);
            boolean tellsRow = kind == 5 || kind == 13 || kind == 24;
            if (tellsRow || chance.nextInt(4) == 0) {
                compareRow(seed);
            }
            CHECKS.due("a step's calls", calls - before <= 40, true);
        }
    }

    /** The subjects: 0 all alike, 1 clocks, 2 trains, 3 laws, 4 towers. */
    private int kindOfCall(int subject) {
        int[][] kinds = {{0, 1, 2, 3, 4, 5, 6, 7, 8, 9, 10, 11, 12, 13, 14, 15, 16, 17, 18, 19, 20, 21, 22, 23, 24, 25, 26},
            {1, 1, 1, 1, 1, 2, 4, 5, 5, 6, 6, 7, 8, 8}, {9, 10, 11, 12, 12, 13, 13, 14, 14, 1, BUSY_LINE, BUSY_LINE},
            {16, 17, 18, 18, 18, 19, 19, 19, 20, 20, 1}, {21, 21, 22, 23, 24, 24, 0}};
        // Now and then a line is closed, and something of another subject comes between.
        int[] mine = kinds[chance.nextInt(12) == 0 ? 0 : subject];
        return mine[chance.nextInt(mine.length)];
    }

    private interface Answer {
        long get();
    }

    private static long answer(Answer asked) {
        try {
            return asked.get();
        } catch (NoSuchElementException e) {
            return THROWN;
        }
    }

    private void compareRow(int seed) {
        int size = plain.count(6);
        calls += size + 3;
        CHECKS.due("seed " + seed + " " + call + ": count(6)", x.count(6), size);
        for (int i = -1; i <= size; i++) {
            int place = i;
            CHECKS.due("seed " + seed + " " + call + ": row(" + i + ")", answer(() -> x.row(place)),
                answer(() -> plain.row(place)));
        }
    }

    private void compare(int seed, String made, Answer got, Answer want) {
        call = made;
        calls++;
        CHECKS.due("seed " + seed + " " + made, answer(got), answer(want));
    }

    /** A number from least to greatest, now and then one beside or far off. */
    private int number(int least, int greatest) {
        switch (chance.nextInt(40)) {
            case 0:
                return least - 1;
            case 1:
                return greatest + 1;
            case 2:
                return least;
            case 3:
                return greatest;
            case 4:
                return chance.nextInt(8) == 0 ? chance.nextInt() : greatest;
            default:
                return least + chance.nextInt(Math.max(1, greatest - least + 1));
        }
    }

    private int someTown() {
        return number(0, plain.count(0) - 1);
    }

    private int someDay() {
        switch (chance.nextInt(3)) {
            case 0:
                return number(0, 399);
            case 1:
                return number(0, 9);
            default:
                return number(0, Math.min(spread, 399));
        }
    }

    private int someMinute() {
        switch (chance.nextInt(4)) {
            case 0:
                return number(0, 575999);
            case 1:
                return number(575000, 575999);
            default:
                return number(0, spread * 1440 % 575999);
        }
    }

    private int someSun() {
        return number(Math.max(-720, -spread), Math.min(720, spread));
    }

    private void compareCall(int seed, int kind) {
        if (kind == BUSY_LINE) {
            compareBusyLine(seed);
        } else if (kind < 9) {
            compareClocks(seed, kind);
        } else if (kind < 16) {
            compareTrains(seed, kind);
        } else if (kind < 21) {
            compareLaws(seed, kind);
        } else {
            compareTowers(seed, kind);
        }
    }

    private void compareClocks(int seed, int kind) {
        boolean atChange = chance.nextInt(3) != 0;
        int a = kind == 0 ? someSun() : atChange && (kind == 5 || kind == 6) ? toldTown : someTown();
        int b = someTown();
        int day = someDay();
        int minute = someMinute();
        // Mostly near the day from which a clock was told, where readings come twice or are left out.
        int reading = atChange ? 1440 * toldDay + number(-720, 720) : minute + someSun();
        int what = number(0, 7);
        int clockKind = number(0, 2);
        int arg = clockKind == 1 ? number(-Math.min(12, spread), Math.min(12, spread)) : b;
        switch (kind) {
            case 0 -> compare(seed, "town(" + a + ")", () -> x.town(a), () -> plain.town(a));
            case 1 -> {
                compare(seed, "clock(" + a + ", " + day + ", " + clockKind + ", " + arg + ")",
                    () -> x.clock(a, day, clockKind, arg), () -> plain.clock(a, day, clockKind, arg));
                toldTown = a;
                toldDay = day;
            }
            case 2 -> compare(seed, "untell()", x::untell, plain::untell);
            case 3 -> compare(seed, "count(" + what + ")", () -> x.count(what), () -> plain.count(what));
            case 4 -> compare(seed, "read(" + a + ", " + minute + ")", () -> x.read(a, minute),
                () -> plain.read(a, minute));
            case 5 -> compare(seed, "when(" + a + ", " + reading + ")", () -> x.when(a, reading),
                () -> plain.when(a, reading));
            case 6 -> compare(seed, "turned(" + a + ", " + reading + ", " + b + ")", () -> x.turned(a, reading, b),
                () -> plain.turned(a, reading, b));
            case 7 -> compare(seed, "unlike(" + a + ", " + b + ")", () -> x.unlike(a, b), () -> plain.unlike(a, b));
            default -> compare(seed, "one(" + day + ")", () -> x.one(day), () -> plain.one(day));
        }
    }

    private void compareTrains(int seed, int kind) {
        int town = someTown();
        int run = spread < 40 ? number(1, 3 + spread) : number(1, 600);
        boolean up = chance.nextBoolean();
        int day = chance.nextInt(4) == 0 ? someDay() : 1;
        int time = day == 1 ? 720 + chance.nextInt(1 + Math.min(spread, 200)) : number(0, 1439);
        int stay = number(0, 60);
        int train = number(0, plain.count(3) - 1);
        int station = number(0, plain.count(2) - 1);
        int v = number(0, 30);
        switch (kind) {
            case 9 -> compare(seed, "station(" + town + ", " + run + ")", () -> x.station(town, run),
                () -> plain.station(town, run));
            case 10 -> compare(seed, "train(" + up + ", " + day + ", " + time + ", " + stay + ")",
                () -> x.train(up, day, time, stay), () -> plain.train(up, day, time, stay));
            case 11 -> compare(seed, "leaves(" + train + ", " + station + ")", () -> x.leaves(train, station),
                () -> plain.leaves(train, station));
            case 12 -> compare(seed, "delay(" + train + ", " + v + ")", () -> x.delay(train, v) ? 1 : 0,
                () -> plain.delay(train, v) ? 1 : 0);
            case 13 -> compare(seed, "meet()", x::meet, plain::meet);
            case 14 -> {
                compare(seed, "free()", x::free, plain::free);
                compareDelays(seed);
            }
            default -> compare(seed, "close()", x::close, plain::close);
        }
    }

    /** A new line whose trains start so close that many of them must be moved. */
    private void compareBusyLine(int seed) {
        compare(seed, "close()", x::close, plain::close);
        int stations = 2 + chance.nextInt(5);
        int most = new int[] {4, 8, 12, 20, 40}[chance.nextInt(5)];
        for (int i = 0; i < stations; i++) {
            int run = 1 + chance.nextInt(most);
            compare(seed, "station(0, " + run + ")", () -> x.station(0, run), () -> plain.station(0, run));
        }
        int trains = 2 + chance.nextInt(5);
        int within = 1 + chance.nextInt(40);
        for (int i = 0; i < trains; i++) {
            boolean up = chance.nextBoolean();
            int time = 720 + chance.nextInt(within);
            int stay = chance.nextInt(1 + chance.nextInt(20));
            compare(seed, "train(" + up + ", 9, " + time + ", " + stay + ")", () -> x.train(up, 9, time, stay),
                () -> plain.train(up, 9, time, stay));
        }
        compare(seed, "meet()", x::meet, plain::meet);
        compare(seed, "free()", x::free, plain::free);
        compareDelays(seed);
    }

    private void compareDelays(int seed) {
        for (int i = 0; i < plain.count(3); i++) {
            int train = i;
            compare(seed, "free(), then leaves(" + i + ", 0)", () -> x.leaves(train, 0), () -> plain.leaves(train, 0));
        }
    }

    private void compareLaws(int seed, int kind) {
        int town = someTown();
        int matter = number(0, 5);
        int day = someDay();
        int minute = someMinute();
        int to = chance.nextInt(3) == 0 ? number(0, 399) : day + chance.nextInt(30);
        int time = number(0, 1439);
        int limit = number(0, 1439);
        int v = chance.nextInt();
        int n = chance.nextInt(4) == 0 ? number(0, plain.count(7)) : plain.count(7);
        switch (kind) {
            case 16 -> compare(seed, "sign(" + v + ")", () -> x.sign(v), () -> plain.sign(v));
            case 17 -> compare(seed, "end(" + n + ")", () -> x.end(n) ? 1 : 0, () -> plain.end(n) ? 1 : 0);
            case 18 -> {
                writeText(seed);
                compare(seed, "law(" + town + ", " + day + ")", () -> x.law(town, day), () -> plain.law(town, day));
            }
            case 19 -> compare(seed, "judged(" + town + ", " + matter + ", " + minute + ")",
                () -> x.judged(town, matter, minute), () -> plain.judged(town, matter, minute));
            default -> compare(seed, "late(" + town + ", " + matter + ", " + day + ", " + to + ", " + time + ", " + limit
                + ")", () -> x.late(town, matter, day, to, time, limit),
                () -> plain.late(town, matter, day, to, time, limit));
        }
    }

    private String someText() {
        StringBuilder text = new StringBuilder();
        int items = 1 + chance.nextInt(chance.nextInt(4) == 0 ? 12 : 5);
        for (int i = 0; i < items; i++) {
            text.append(i == 0 ? "" : ";").append("abcdef".charAt(chance.nextInt(6)));
            text.append('=').append("lcz".charAt(chance.nextInt(3)));
            if (chance.nextBoolean()) {
                text.append("+-".charAt(chance.nextInt(2)));
                text.append(chance.nextInt(new int[] {10, 100, 1000}[chance.nextInt(3)]));
            }
        }
        if (chance.nextInt(4) == 0) {
            String signs = "abcdefglz=+-;019 \u00e9";
            text.setCharAt(chance.nextInt(text.length()), signs.charAt(chance.nextInt(signs.length())));
        }
        if (chance.nextInt(8) == 0) {
            text.setLength(chance.nextInt(text.length() + 1));
        }
        return text.substring(0, Math.min(text.length(), 96));
    }

    private void writeText(int seed) {
        if (chance.nextInt(6) != 0) {
            compare(seed, "end(0)", () -> x.end(0) ? 1 : 0, () -> plain.end(0) ? 1 : 0);
        }
        int before = plain.count(7);
        String text = someText();
        for (int i = 0; i < text.length(); i += 4) {
            int v = 0;
            for (int k = i; k < i + 4; k++) {
                v = v << 8 | (k < text.length() ? text.charAt(k) : 'x');
            }
            int four = v;
            compare(seed, "sign(" + four + ")", () -> x.sign(four), () -> plain.sign(four));
        }
        int n = before + text.length();
        compare(seed, "end(" + n + ")", () -> x.end(n) ? 1 : 0, () -> plain.end(n) ? 1 : 0);
    }

    private void compareTowers(int seed, int kind) {
        int town = someTown();
        int minute = kind == 21 ? number(0, spread * 10) : someMinute();
        int drift = chance.nextInt(3) == 0 ? number(-600, 600) : number(-Math.min(600, spread), Math.min(600, spread));
        int tower = number(0, plain.count(5) - 1);
        switch (kind) {
            case 21 -> compare(seed, "tower(" + town + ", " + minute + ", " + drift + ")",
                () -> x.tower(town, minute, drift), () -> plain.tower(town, minute, drift));
            case 22 -> compare(seed, "error(" + tower + ", " + minute + ")", () -> x.error(tower, minute),
                () -> plain.error(tower, minute));
            case 23 -> {
                int soon = chance.nextInt(4) == 0 ? minute : number(0, spread * 20);
                compare(seed, "set(" + tower + ", " + soon + ")", () -> x.set(tower, soon), () -> plain.set(tower, soon));
            }
            case 24 -> compare(seed, "round(" + town + ", " + minute + ")", () -> x.round(town, minute),
                () -> plain.round(town, minute));
            default -> compare(seed, "count(5)", () -> x.count(5), () -> plain.count(5));
        }
    }
}
