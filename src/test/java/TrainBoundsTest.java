/** The boundary cases of the terms 2 and the promises 11 to 17, sentence by sentence: the line and its trains. */
public final class TrainBoundsTest {
    private static final int NONE = OneTime.NONE;
    private static final int LEAST = Bounds.LEAST;
    private static final int GREATEST = Bounds.GREATEST;
    private static final Bounds AT = new Bounds("TrainBoundsTest", "Terms 2", "Promise 11", "Promise 12", "Promise 13",
        "Promise 14", "Promise 15", "Promise 16", "Promise 17");

    public static void main(String[] args) {
        termsOfTheLine();
        termsOfMeeting();
        promise11();
        promise12();
        promise13();
        promise14();
        promise15();
        promise16();
        promise17();
        AT.finish();
    }

    private static OneTime line(int... runs) {
        return Filling.line(runs);
    }

    /** A train by a clock that shows the minutes themselves. */
    private static int train(OneTime x, boolean up, int minute, int stay) {
        return x.train(up, minute / 1440, minute % 1440, stay);
    }

    /** Up trains on one run that start at these minutes. */
    private static OneTime starts(int run, int... minutes) {
        OneTime x = line(run);
        for (int minute : minutes) {
            train(x, true, minute, 0);
        }
        return x;
    }

    /** At which minutes the trains leave their first station, which is station 0. */
    private static void leave(String what, OneTime x, int... minutes) {
        for (int i = 0; i < minutes.length; i++) {
            AT.due(what + ": train " + i + " leaves", x.leaves(i, 0), minutes[i]);
        }
    }

    // ---- terms 2: the line

    private static void termsOfTheLine() {
        termStations();
        termRuns();
        termFirstRun();
        termTrains();
        termUpOrDown();
        termStart();
        termStay();
        termDelay();
        termOnARun();
    }

    private static void termStations() {
        AT.term(2, "A LINE: STATIONS 0 .. (at most 6), each at a TOWN");
        AT.due("a 6th", Filling.ALMOST.make().station(0, 1), 5);
        AT.refused("a 7th", () -> line(1, 1, 1, 1, 1), NONE, x -> x.station(0, 1));
        AT.edges("leaves(0, ?) on six", Filling.FULL, 0, 5, NONE, (x, v) -> x.leaves(0, v));
        AT.edges("leaves(0, ?) on three", Filling.SOME, 0, 2, NONE, (x, v) -> x.leaves(0, v));
        OneTime x = Filling.withTowns(5, 100, 5, -100);
        x.station(1, 1);
        x.station(3, 1);
        x.train(true, 1, 0, 0);
        x.train(false, 1, 0, 0);
        AT.due("the first one's town", x.leaves(0, 0), 1340);
        AT.due("the last one's town", x.leaves(1, 1), 1540);
    }

    private static void termRuns() {
        AT.term(2, "with RUN 1 .. 600 from the one ahead");
        AT.edges("station(0, ?)", Filling.ALMOST, 1, 600, NONE, (x, v) -> x.station(0, v));
        AT.edges("station(0, ?), the second", () -> line(), 1, 600, NONE, (x, v) -> x.station(0, v));
        OneTime x = line(600, 1, 600, 1, 600);
        x.train(true, 0, 0, 0);
        x.train(false, 0, 0, 0);
        int[] up = {0, 600, 601, 1201, 1202, 1802};
        for (int station = 0; station < 6; station++) {
            AT.due("up at " + station, x.leaves(0, station), up[station]);
            AT.due("down at " + station, x.leaves(1, station), 1802 - up[station]);
        }
    }

    private static void termFirstRun() {
        AT.term(2, "(that of the first doesn't matter)");
        for (int run : new int[] {0, 1, 600, 601, -1, LEAST, GREATEST}) {
            OneTime x = Filling.withTowns(0);
            AT.due("the first with " + run, x.station(0, run), 0);
            AT.due("the second", x.station(0, 7), 1);
            x.train(true, 0, 50, 0);
            x.train(false, 0, 50, 0);
            AT.due("up comes", x.leaves(0, 1), 57);
            AT.due("down comes", x.leaves(1, 0), 57);
            x.close();
            AT.due("behind close the first with " + run, x.station(0, run), 0);
            AT.due("but not the second with 601", x.station(0, 601), NONE);
        }
    }

    private static void termTrains() {
        AT.term(2, "TRAINS 0 .. (at most 6)");
        OneTime x = line(5);
        for (int i = 0; i < 6; i++) {
            AT.due("train " + i, train(x, true, 100, 0), i);
        }
        AT.due("a 7th", train(x, true, 100, 0), NONE);
        AT.edges("leaves(?, 0) of six", Filling.FULL, 0, 5, NONE, (y, v) -> y.leaves(v, 0));
        AT.edges("leaves(?, 0) of two", Filling.SOME, 0, 1, NONE, (y, v) -> y.leaves(v, 0));
    }

    private static void termUpOrDown() {
        AT.term(2, "each UP (from STATION 0 to the last) or down");
        for (int stations = 2; stations <= 6; stations++) {
            OneTime x = Filling.withTowns(0);
            for (int i = 0; i < stations; i++) {
                x.station(0, 10 * i);
            }
            train(x, true, 100, 0);
            train(x, false, 100, 0);
            int last = stations - 1;
            int way = 10 * last * (last + 1) / 2;
            AT.due("up begins at 0 of " + stations, x.leaves(0, 0), 100);
            AT.due("up ends at the last of " + stations, x.leaves(0, last), 100 + way);
            AT.due("down begins at the last of " + stations, x.leaves(1, last), 100);
            AT.due("down ends at 0 of " + stations, x.leaves(1, 0), 100 + way);
            AT.due("up leaves 1", x.leaves(0, 1), 110);
            AT.due("down leaves the last but one", x.leaves(1, last - 1), 100 + 10 * last);
        }
    }

    private static void termStart() {
        AT.term(2, "with a START (MINUTE)");
        OneTime x = line(5);
        AT.due("minute 0", train(x, true, 0, 0), 0);
        AT.due("minute 575999", train(x, true, 575999, 0), 1);
        leave("the first and the last minute", x, 0, 575999);
        AT.due("minute 576000", train(x, true, 576000, 0), NONE);
    }

    private static void termStay() {
        AT.term(2, "STAY 0 .. 60 at each STATION between");
        AT.edges("train(true, 60, 700, ?)", Filling.SOME, 0, 60, NONE, (x, v) -> x.train(true, 60, 700, v));
        AT.edges("train(false, 60, 700, ?)", Filling.SOME, 0, 60, NONE, (x, v) -> x.train(false, 60, 700, v));
        for (int stay : new int[] {0, 1, 60}) {
            OneTime six = line(10, 10, 10, 10, 10);
            train(six, true, 0, stay);
            train(six, false, 0, stay);
            int[] stays = {0, 1, 2, 3, 4, 4};
            for (int i = 0; i < 6; i++) {
                AT.due("stay " + stay + ", up at " + i, six.leaves(0, i), 10 * i + stays[i] * stay);
                AT.due("stay " + stay + ", down at " + (5 - i), six.leaves(1, 5 - i), 10 * i + stays[i] * stay);
            }
            OneTime two = line(10);
            train(two, true, 0, stay);
            AT.due("stay " + stay + ", no station between", two.leaves(0, 1), 10);
        }
    }

    private static void termDelay() {
        AT.term(2, "DELAY 0 .. 30 (0 at first).");
        AT.edges("delay(1, ?)", Filling.SOME, 0, 30, 0, (x, v) -> x.delay(1, v) ? 1 : 0);
        OneTime x = line(10);
        for (int i = 0; i < 6; i++) {
            train(x, true, 100, 0);
            x.delay(i, 30);
        }
        leave("delay 30", x, 130, 130, 130, 130, 130, 130);
        x.close();
        x.station(0, 0);
        x.station(0, 10);
        for (int i = 0; i < 6; i++) {
            train(x, true, 100, 0);
        }
        leave("0 at first, behind close too", x, 100, 100, 100, 100, 100, 100);
    }

    private static void termOnARun() {
        AT.term(2, "It leaves at START and DELAY, is on each RUN from when it leaves to when it comes (this MINUTE not), "
            + "leaves STAY later.");
        // Up is on run 0 at 100 .. 109, stays 110 .. 114, is on run 1 at 115 .. 124, comes at 125.
        meetOnTwoRuns("down on run 1 till 114", 105, 0, NONE);
        meetOnTwoRuns("down on run 1 till 115", 106, 0, 1);
        meetOnTwoRuns("down on run 1 till 124, its last minute", 115, 0, 1);
        meetOnTwoRuns("down on run 1 from 124 on, up's last minute", 124, 0, 1);
        meetOnTwoRuns("down on run 1 from 125 on, as up comes", 125, 0, NONE);
        meetOnTwoRuns("down on run 0 from 110 on, as up comes", 100, 0, NONE);
        meetOnTwoRuns("down on run 0 from 109 on, up's last minute", 99, 0, 0);
        meetOnTwoRuns("down on run 0 till 99", 80, 0, NONE);
        meetOnTwoRuns("down on run 0 till 100", 81, 0, 0);
        meetOnTwoRuns("down stays till 109", 85, 14, 0);
        meetOnTwoRuns("down stays till 110", 85, 15, NONE);
        OneTime x = line(10, 10);
        train(x, true, 100, 5);
        x.delay(0, 30);
        int[] leaves = {130, 145, 155};
        for (int i = 0; i < 3; i++) {
            AT.due("with delay at " + i, x.leaves(0, i), leaves[i]);
        }
    }

    private static void meetOnTwoRuns(String what, int downStart, int downStay, int run) {
        OneTime x = line(10, 10);
        train(x, true, 100, 5);
        train(x, false, downStart, downStay);
        AT.due(what, x.meet(), run == NONE ? 0 : 1);
        if (run == NONE) {
            AT.row(what, x);
        } else {
            AT.row(what, x, 0, 1, run);
        }
    }

    // ---- terms 2: meeting and the best delays

    private static void termsOfMeeting() {
        termMeet();
        termFree();
        termMoved();
        termSteps();
        termFewestMoved();
        termLeastSum();
        termFirstTrain();
    }

    private static void termMeet() {
        AT.term(2, "Two TRAINS MEET on a RUN, if some MINUTE both are on it (also going the same way).");
        for (int run : new int[] {1, 2, 7, 600}) {
            for (int way = 0; way < 4; way++) {
                int[] aparts = {-run - 1, -run, 1 - run, -1, 0, 1, run - 1, run, run + 1};
                for (int apart : aparts) {
                    OneTime x = line(run);
                    train(x, way % 2 == 0, 2000, 0);
                    train(x, way / 2 == 0, 2000 + apart, 0);
                    AT.due("run " + run + ", ways " + way + ", " + apart + " apart", x.meet(), Math.abs(apart) < run ? 1 : 0);
                }
            }
        }
        OneTime x = starts(30, 2000, 2000);
        x.delay(1, 29);
        AT.due("29 apart by delay", x.meet(), 1);
        x.delay(1, 30);
        AT.due("30 apart by delay", x.meet(), 0);
        x.delay(0, 1);
        AT.due("29 apart by both delays", x.meet(), 1);
        // A way has no end but its last station: they meet behind all minutes too, as leaves() tells numbers there.
        for (int apart = 9; apart <= 10; apart++) {
            OneTime late = line(1, 10);
            train(late, true, 575999 - apart, 0);
            train(late, true, 575999, 0);
            AT.due("behind all minutes, " + apart + " apart", late.meet(), apart == 9 ? 1 : 0);
        }
    }

    private static void termFree() {
        AT.term(2, "FREE: no two MEET.");
        OneTime touching = starts(10, 0, 10, 20, 30, 40, 50);
        AT.due("one behind the other", touching.free(), 0);
        leave("one behind the other", touching, 0, 10, 20, 30, 40, 50);
        OneTime last = starts(10, 0, 10, 20, 30, 40, 49);
        AT.due("the last two meet by a minute", last.free(), 1);
        leave("the last two meet by a minute", last, 0, 10, 20, 30, 40, 54);
        OneTime outer = starts(10, 9, 30, 40, 50, 60, 0);
        AT.due("the first and the last meet by a minute", outer.free(), 1);
        leave("the first and the last meet by a minute", outer, 14, 30, 40, 50, 60, 0);
    }

    private static void termMoved() {
        AT.term(2, "MOVED: TRAINS with DELAY above 0.");
        OneTime x = line(5);
        for (int i = 0; i < 6; i++) {
            AT.due("with " + i + " trains", x.free(), Math.max(i - 1, 0));
            train(x, i % 2 == 0, 100, 0);
        }
        AT.due("with 6 trains", x.free(), 5);
        for (int i = 0; i < 6; i++) {
            AT.due("train " + i, x.leaves(i, i % 2), 100 + 5 * i);
        }
    }

    private static void termSteps() {
        AT.term(2, "THE BEST DELAYS: each 0, 5, 10, .. or 30, so that it is FREE");
        for (int run = 1; run <= 32; run++) {
            OneTime x = starts(run, 100, 100);
            AT.due("run " + run, x.free(), run <= 30 ? 1 : NONE);
            leave("run " + run, x, 100, run <= 30 ? 100 + (run + 4) / 5 * 5 : 100);
        }
        // Four trains fit into 0 .. 30 by tens, a fifth one doesn't.
        OneTime four = starts(10, 0, 0, 0, 0);
        AT.due("four", four.free(), 3);
        leave("four", four, 0, 10, 20, 30);
        AT.due("five", starts(10, 0, 0, 0, 0, 0).free(), NONE);
    }

    private static void termFewestMoved() {
        AT.term(2, "the fewest MOVED");
        // Both others moved by 5 would be a less sum than one moved by 20.
        OneTime x = starts(10, 0, 5, 15);
        AT.due("one moved", x.free(), 1);
        leave("one moved", x, 0, 25, 15);
        OneTime y = starts(5, 0, 0, 5, 10, 15, 20);
        AT.due("one of six", y.free(), 1);
        leave("one of six", y, 0, 25, 5, 10, 15, 20);
        OneTime z = starts(5, 0, 0, 5, 10, 15, 30);
        AT.due("into a gap", z.free(), 1);
        leave("into a gap", z, 0, 20, 5, 10, 15, 30);
        OneTime far = starts(10, 0, 0, 10, 20);
        AT.due("by 30", far.free(), 1);
        leave("by 30", far, 0, 30, 10, 20);
        OneTime tooFar = starts(11, 0, 0, 11, 22);
        AT.due("33 is too far for one", tooFar.free(), 2);
    }

    private static void termLeastSum() {
        AT.term(2, "of equal ones the least sum");
        OneTime x = starts(10, 5, 0);
        AT.due("the first by 5, not the other by 15", x.free(), 1);
        leave("the first by 5", x, 10, 0);
        OneTime y = starts(10, 1, 0);
        AT.due("the first by 10, not the other by 15", y.free(), 1);
        leave("the first by 10", y, 11, 0);
        OneTime z = starts(10, 0, 1);
        AT.due("the other by 10, not the first by 15", z.free(), 1);
        leave("the other by 10", z, 0, 11);
        OneTime last = starts(10, 100, 8, 0);
        AT.due("the second by 5, not the last by 20", last.free(), 1);
        leave("the second by 5", last, 100, 13, 0);
    }

    private static void termFirstTrain() {
        AT.term(2, "then for the first TRAIN with unlike DELAYS the less.");
        OneTime two = starts(10, 0, 0);
        AT.due("two alike", two.free(), 1);
        leave("two alike", two, 0, 10);
        OneTime three = starts(10, 0, 0, 0);
        AT.due("three alike", three.free(), 2);
        leave("three alike", three, 0, 10, 20);
        // Either of the last two by 10.
        OneTime behind = starts(10, 100, 0, 0);
        AT.due("the last two alike", behind.free(), 1);
        leave("the last two alike", behind, 100, 0, 10);
        OneTime pairs = starts(10, 0, 0, 100, 100);
        AT.due("two pairs", pairs.free(), 2);
        leave("two pairs", pairs, 0, 10, 100, 110);
        // 0 and 3 start alike, and so do 1 and 2: the later one of each pair goes.
        OneTime around = starts(10, 0, 100, 100, 0);
        AT.due("a pair around a pair", around.free(), 2);
        leave("a pair around a pair", around, 0, 100, 110, 10);
    }

    // ---- promise 11: station

    private static void promise11() {
        promise11ItsNumber();
        promise11NoSuchNumbers();
        promise11Six();
        promise11ThereAreTrains();
    }

    private static void promise11ItsNumber() {
        AT.promise(11, "A STATION more: its number.");
        OneTime x = Filling.withTowns(0, 1);
        for (int i = 0; i < 6; i++) {
            AT.due("station " + i, x.station(i % 2, 600), i);
            AT.due("count(2)", x.count(2), i + 1);
        }
    }

    private static void promise11NoSuchNumbers() {
        AT.promise(11, "NONE: no such TOWN, RUN");
        AT.edges("station(?, 1)", Filling.ALMOST, 0, 15, NONE, (x, v) -> x.station(v, 1));
        AT.edges("station(?, 1), the first", () -> Filling.withTowns(0, 0), 0, 1, NONE, (x, v) -> x.station(v, 1));
        AT.edges("station(15, ?)", Filling.ALMOST, 1, 600, NONE, (x, v) -> x.station(15, v));
        AT.refused("neither", Filling.ALMOST, NONE, x -> x.station(16, 601));
    }

    private static void promise11Six() {
        AT.promise(11, "; 6");
        for (int run : new int[] {0, 1, 600}) {
            AT.refused("station(0, " + run + "), the 7th", () -> line(1, 1, 1, 1, 1), NONE, x -> x.station(0, run));
        }
        AT.due("the 6th", line(1, 1, 1, 1).station(0, 600), 5);
    }

    private static void promise11ThereAreTrains() {
        AT.promise(11, "; there are TRAINS.");
        AT.refused("with two trains", Filling.SOME, NONE, x -> x.station(0, 1));
        AT.refused("with one train", () -> starts(5, 100), NONE, x -> x.station(0, 1));
        AT.refused("with six trains", Filling.FULL, NONE, x -> x.station(0, 1));
        OneTime x = line(5);
        x.train(true, 400, 0, 0);
        AT.due("a refused train is none", x.station(0, 1), 2);
        OneTime y = starts(5, 100);
        y.close();
        AT.due("none behind close", y.station(0, 1), 0);
    }

    // ---- promise 12: train

    private static void promise12() {
        promise12ItsStart();
        promise12FirstOfTwo();
        promise12NumbersNotAsTold();
        promise12FewerThanTwo();
        promise12NoSuchMinute();
        promise12Six();
    }

    private static void promise12ItsStart() {
        AT.promise(12, "A TRAIN whose START is told by the CLOCK of its first STATION");
        OneTime x = Filling.withTowns(-720, 720, 0);
        x.station(0, 1);
        x.station(2, 10);
        x.station(1, 10);
        AT.due("up by station 0", x.train(true, 0, 0, 0), 0);
        AT.due("its start", x.leaves(0, 0), 720);
        AT.due("down by the last", x.train(false, 1, 0, 0), 1);
        AT.due("its start", x.leaves(1, 2), 720);
        AT.due("down, minute 0", x.train(false, 0, 720, 0), 2);
        AT.due("its start", x.leaves(2, 2), 0);
        AT.due("up, minute 575999", x.train(true, 399, 719, 0), 3);
        AT.due("its start", x.leaves(3, 0), 575999);
        x.clock(0, 10, 1, 0);
        AT.due("by the clock of the day ahead", x.train(true, 9, 719, 0), 4);
        AT.due("its start", x.leaves(4, 0), 10 * 1440 - 1);
        AT.due("by the clock of that day", x.train(true, 10, 0, 0), 5);
        AT.due("its start", x.leaves(5, 0), 10 * 1440);
    }

    private static void promise12FirstOfTwo() {
        AT.promise(12, ": the first MINUTE at which it shows DAY times 1440 and time (0 .. 1439): its number.");
        OneTime x = Filling.withTowns(720);
        x.station(0, 1);
        x.station(0, 10);
        x.clock(0, 1, 1, -12);
        // 720 .. 2159 are shown on day 0 and again on day 1.
        AT.due("the first shown twice", x.train(true, 0, 720, 0), 0);
        AT.due("the last shown twice", x.train(true, 1, 719, 0), 1);
        AT.due("behind it", x.train(true, 1, 720, 0), 2);
        leave("the first minute", x, 0, 1439, 2880);
        AT.edges("train(true, 60, ?, 0)", Filling.SOME, 0, 1439, NONE, (y, v) -> y.train(true, 60, v, 0));
        AT.edges("train(false, 60, ?, 0)", Filling.SOME, 0, 1439, NONE, (y, v) -> y.train(false, 60, v, 0));
        OneTime z = line(5);
        z.train(true, 1, 0, 0);
        z.train(true, 0, 1439, 0);
        z.train(true, 399, 1439, 0);
        leave("DAY times 1440 and time", z, 1440, 1439, 575999);
    }

    private static void promise12NumbersNotAsTold() {
        AT.promise(12, "NONE: numbers not as told");
        AT.edges("train(true, ?, 700, 0)", Filling.SOME, 0, 399, NONE, (x, v) -> x.train(true, v, 700, 0));
        AT.edges("train(true, 60, 700, ?)", Filling.SOME, 0, 60, NONE, (x, v) -> x.train(true, 60, 700, v));
        // The clocks show these readings, but not as a DAY and a time.
        AT.refused("day 400, shown at 575280", () -> lineAt(720), NONE, x -> x.train(true, 400, 0, 0));
        AT.refused("day -1, shown at 719", () -> lineAt(-720), NONE, x -> x.train(true, -1, 1439, 0));
        AT.refused("time 1440 of day 0", () -> lineAt(0), NONE, x -> x.train(true, 0, 1440, 0));
        AT.refused("time -1 of day 1", () -> lineAt(0), NONE, x -> x.train(true, 1, -1, 0));
        AT.refused("time 1440 of day -1", () -> lineAt(0), NONE, x -> x.train(true, -1, 1440, 0));
        AT.refused("a day far off", () -> lineAt(0), NONE, x -> x.train(true, 1 << 27, 0, 0));
        AT.refused("a time far off", () -> lineAt(0), NONE, x -> x.train(true, 0, 1 << 27, 0));
    }

    private static OneTime lineAt(int sun) {
        OneTime x = Filling.withTowns(sun);
        x.station(0, 1);
        x.station(0, 5);
        return x;
    }

    private static void promise12FewerThanTwo() {
        AT.promise(12, ", fewer than two STATIONS");
        for (boolean up : new boolean[] {true, false}) {
            AT.refused("none", () -> Filling.withTowns(0), NONE, x -> x.train(up, 0, 0, 0));
            AT.refused("one", () -> line(), NONE, x -> x.train(up, 0, 0, 0));
            AT.due("two", line(1).train(up, 0, 0, 0), 0);
        }
    }

    private static void promise12NoSuchMinute() {
        AT.promise(12, ", there is no such MINUTE");
        AT.refused("ahead of minute 0", () -> lineAt(720), NONE, x -> x.train(true, 0, 719, 0));
        AT.due("minute 0", lineAt(720).train(true, 0, 720, 0), 0);
        AT.refused("behind minute 575999", () -> lineAt(-720), NONE, x -> x.train(true, 399, 720, 0));
        AT.due("minute 575999", lineAt(-720).train(true, 399, 719, 0), 0);
        Bounds.Maker gap = () -> {
            OneTime x = lineAt(0);
            x.clock(0, 1, 1, 1);
            return x;
        };
        AT.due("ahead of the gap", gap.make().train(true, 0, 1439, 0), 0);
        AT.refused("the first left out", gap, NONE, x -> x.train(true, 1, 0, 0));
        AT.refused("the last left out", gap, NONE, x -> x.train(true, 1, 59, 0));
        AT.due("behind the gap", gap.make().train(true, 1, 60, 0), 0);
    }

    private static void promise12Six() {
        AT.promise(12, "; 6.");
        AT.due("the 6th", starts(5, 1, 2, 3, 4, 5).train(false, 0, 0, 60), 5);
        AT.refused("the 7th", Filling.FULL, NONE, x -> x.train(true, 60, 700, 0));
        AT.refused("the 7th, down", Filling.FULL, NONE, x -> x.train(false, 60, 700, 0));
        OneTime x = starts(5, 1, 2, 3, 4, 5, 6);
        x.close();
        x.station(0, 1);
        x.station(0, 5);
        AT.due("behind close the first", x.train(true, 0, 0, 0), 0);
    }

    // ---- promise 13: leaves

    private static void promise13() {
        promise13LeavesOrComes();
        promise13NoneSuch();
    }

    private static void promise13LeavesOrComes() {
        AT.promise(13, "The MINUTE at which a TRAIN leaves a STATION (its last one: at which it comes there).");
        OneTime x = line(10, 20, 30);
        train(x, true, 100, 60);
        train(x, false, 100, 60);
        x.delay(1, 30);
        int[] up = {100, 170, 250, 280};
        int[] down = {310, 300, 220, 130};
        for (int i = 0; i < 4; i++) {
            AT.due("up at " + i, x.leaves(0, i), up[i]);
            AT.due("down at " + i, x.leaves(1, i), down[i]);
        }
        // What lies behind all minutes is still told by its number: no sentence sets an end to a way.
        OneTime late = line(600, 600, 600, 600, 600);
        train(late, true, 575999, 60);
        late.delay(0, 30);
        AT.due("behind all minutes", late.leaves(0, 5), 575999 + 3000 + 240 + 30);
        AT.alike("leaves", Filling.FULL, y -> y.leaves(5, 5), y -> 0);
    }

    private static void promise13NoneSuch() {
        AT.promise(13, "NONE: none such.");
        AT.edges("leaves(?, 0)", Filling.SOME, 0, 1, NONE, (x, v) -> x.leaves(v, 0));
        AT.edges("leaves(0, ?)", Filling.SOME, 0, 2, NONE, (x, v) -> x.leaves(0, v));
        AT.edges("leaves(?, 5)", Filling.FULL, 0, 5, NONE, (x, v) -> x.leaves(v, 5));
        AT.edges("leaves(5, ?)", Filling.FULL, 0, 5, NONE, (x, v) -> x.leaves(5, v));
        AT.refused("stations without trains", Filling.ALMOST, NONE, x -> x.leaves(0, 0));
        OneTime x = starts(5, 1, 2, 3);
        x.close();
        AT.due("behind close", x.leaves(0, 0), NONE);
    }

    // ---- promise 14: delay

    private static void promise14() {
        promise14Becomes();
        promise14NoneSuch();
    }

    private static void promise14Becomes() {
        AT.promise(14, "DELAY of a TRAIN becomes v: true");
        OneTime x = starts(5, 100, 100, 100, 100, 100, 100);
        for (int v : new int[] {30, 0, 1, 29, 30, 30}) {
            AT.due("delay(5, " + v + ")", x.delay(5, v), true);
            leave("delay(5, " + v + ")", x, 100, 100, 100, 100, 100, 100 + v);
        }
        AT.alike("the delay that it has", Filling.SOME, y -> y.delay(0, 3) ? 1 : 0, y -> 0);
        AT.alike("there and back", Filling.FULL, y -> (y.delay(2, 30) ? 1 : 0) + (y.delay(2, 13) ? 1 : 0), y -> 0);
    }

    private static void promise14NoneSuch() {
        AT.promise(14, "; false for none such.");
        AT.edges("delay(?, 9)", Filling.SOME, 0, 1, 0, (x, v) -> x.delay(v, 9) ? 1 : 0);
        AT.edges("delay(?, 9)", Filling.FULL, 0, 5, 0, (x, v) -> x.delay(v, 9) ? 1 : 0);
        AT.edges("delay(0, ?)", Filling.SOME, 0, 30, 0, (x, v) -> x.delay(0, v) ? 1 : 0);
        AT.edges("delay(5, ?)", Filling.FULL, 0, 30, 0, (x, v) -> x.delay(5, v) ? 1 : 0);
        AT.refused("stations without trains", Filling.ALMOST, 0, x -> x.delay(0, 0) ? 1 : 0);
    }

    // ---- promise 15: meet

    private static void promise15() {
        promise15FirstTwo();
        promise15FirstRun();
        promise15TheRow();
    }

    private static void promise15FirstTwo() {
        AT.promise(15, "The first two TRAINS that MEET (the less number's first, then the other's)");
        meets(starts(10, 0, 20, 40, 60, 80, 85), 4, 5);
        meets(starts(10, 0, 20, 40, 60, 80, 5), 0, 5);
        meets(starts(10, 0, 20, 20, 60, 80, 5), 0, 5);
        meets(starts(10, 0, 20, 5, 20, 5, 5), 0, 2);
        meets(starts(10, 100, 20, 5, 20, 5, 5), 1, 3);
        meets(starts(10, 0, 0, 0, 0, 0, 0), 0, 1);
    }

    private static void meets(OneTime x, int first, int other) {
        AT.due("meet", x.meet(), 1);
        AT.row("meet", x, first, other, 0);
    }

    private static void promise15FirstRun() {
        AT.promise(15, "and the first RUN on which (RUN k: from STATION k to k + 1)");
        // On a line of short runs with one that is longer two trains, 5 apart, meet on the longer one alone.
        for (int longer = 0; longer < 5; longer++) {
            int[] runs = {5, 5, 5, 5, 5};
            runs[longer] = 6;
            for (boolean up : new boolean[] {true, false}) {
                OneTime x = line(runs);
                train(x, up, 100, 0);
                train(x, up, 105, 0);
                AT.due("the longer one is " + longer, x.meet(), 1);
                AT.row("the longer one is " + longer, x, 0, 1, longer);
            }
        }
        OneTime all = line(5, 5, 5);
        train(all, false, 100, 0);
        train(all, false, 104, 0);
        AT.due("on all runs, down", all.meet(), 1);
        AT.row("on all runs, down", all, 0, 1, 0);
        OneTime last = line(600, 600, 600, 600, 1);
        train(last, true, 0, 0);
        train(last, false, 2400, 0);
        AT.due("on the last of five", last.meet(), 1);
        AT.row("on the last of five", last, 0, 1, 4);
    }

    private static void promise15TheRow() {
        AT.promise(15, ": the ROW: 1; 0: none do.");
        AT.refused("without trains", Filling.ALMOST, 0, OneTime::meet);
        AT.refused("one train", () -> starts(5, 100), 0, OneTime::meet);
        AT.refused("six that don't", () -> starts(5, 5, 10, 15, 20, 25, 30), 0, OneTime::meet);
        OneTime x = Filling.FULL.make();
        AT.due("the row has eight", x.count(6), 8);
        AT.due("some do", x.meet(), 1);
        AT.due("then it has three", x.count(6), 3);
        x.close();
        AT.due("none do", x.meet(), 0);
        AT.due("and it has them still", x.count(6), 3);
    }

    // ---- promise 16: free

    private static void promise16() {
        promise16HowMany();
        promise16ThereAreNone();
    }

    private static void promise16HowMany() {
        AT.promise(16, "THE BEST DELAYS are those of all TRAINS then: how many MOVED.");
        OneTime x = starts(10, 0, 50, 100, 150, 200, 250);
        for (int i = 0; i < 6; i++) {
            x.delay(i, 5 * i + 1);
        }
        AT.due("what they had does not count", x.free(), 0);
        leave("what they had does not count", x, 0, 50, 100, 150, 200, 250);
        AT.due("without trains", line(5).free(), 0);
        AT.due("without a line", new OneTime().free(), 0);
        OneTime one = starts(600, 100);
        one.delay(0, 30);
        AT.due("one train", one.free(), 0);
        leave("one train", one, 100);
        AT.alike("free again", () -> starts(10, 0, 0, 0, 0), OneTime::free, y -> y.free() + y.free());
        OneTime full = Filling.FULL.make();
        full.free();
        AT.due("it leaves the row", full.count(6), 8);
    }

    private static void promise16ThereAreNone() {
        AT.promise(16, "NONE: there are none (nothing changes).");
        Bounds.Maker tight = () -> {
            OneTime x = starts(6, 0, 0, 0, 0, 0, 0);
            for (int i = 0; i < 6; i++) {
                x.delay(i, 30 - i);
            }
            return x;
        };
        AT.refused("six by sixes", tight, NONE, OneTime::free);
        AT.refused("31 for two", () -> starts(31, 500, 500), NONE, OneTime::free);
        AT.refused("the last two of six", () -> starts(40, 0, 100, 200, 300, 400, 400), NONE, OneTime::free);
        OneTime x = tight.make();
        x.free();
        leave("their delays", x, 30, 29, 28, 27, 26, 25);
    }

    // ---- promise 17: close

    private static void promise17() {
        AT.promise(17, "There are no TRAINS and STATIONS: how many TRAINS there were.");
        OneTime x = Filling.withTowns(0);
        for (int trains = 0; trains <= 6; trains++) {
            x.station(0, 0);
            x.station(0, 5);
            for (int i = 0; i < trains; i++) {
                train(x, true, i, 0);
            }
            AT.due("with " + trains + " trains", x.close(), trains);
            AT.due("stations then", x.count(2), 0);
            AT.due("trains then", x.count(3), 0);
        }
        AT.due("once more", x.close(), 0);
        AT.due("stations alone", Filling.ALMOST.make().close(), 0);
        AT.alike("twice", Filling.FULL, OneTime::close, y -> y.close() + y.close());
        OneTime full = Filling.FULL.make();
        full.close();
        int[] counts = {16, 60, 0, 0, 20, 7, 8, 100};
        for (int what = 0; what <= 7; what++) {
            AT.due("count(" + what + ") of a full one then", full.count(what), counts[what]);
        }
        for (int i = 0; i < 6; i++) {
            AT.due("a new line's station " + i, full.station(i, 600), i);
        }
        for (int i = 0; i < 6; i++) {
            AT.due("a new line's train " + i, full.train(true, 60, 700, 0), i);
        }
    }
}
