import java.util.ArrayList;
import java.util.List;

/** The boundary cases of the terms 1 and the promises 1 to 10, sentence by sentence: towns and clocks. */
public final class TownBoundsTest {
    private static final long NO_SUCH = Bounds.NO_SUCH;
    private static final int NONE = OneTime.NONE;
    private static final int LEAST = Bounds.LEAST;
    private static final int GREATEST = Bounds.GREATEST;
    private static final Bounds AT = new Bounds("TownBoundsTest", "Terms 1", "Promise 1", "Promise 2", "Promise 3",
        "Promise 4", "Promise 5", "Promise 6", "Promise 7", "Promise 8", "Promise 9", "Promise 10");

    public static void main(String[] args) {
        lastCalls();
        terms();
        promise1();
        promise2();
        promise3();
        promise4();
        promise5();
        promise6();
        promise7();
        promise8();
        promise9();
        promise10();
        AT.finish();
    }

    // ---- what it is

    private static void lastCalls() {
        AT.open("What it is", "An object is used for at most 512 calls after it has been made");
        OneTime clocks = Filling.withTowns(7);
        for (int i = 0; i < 255; i++) {
            clocks.clock(0, 0, 1, 1);
            clocks.untell();
        }
        AT.due("511 calls of clocks, then read", clocks.read(0, 0), 7);
        OneTime tape = Filling.withTowns(7);
        for (int i = 0; i < 255; i++) {
            tape.sign(LEAST);
            tape.end(i % 5);
        }
        AT.due("511 calls of the tape, then count", tape.count(7), 4);
        OneTime line = Filling.withTowns(0);
        line.station(0, 0);
        line.station(0, 5);
        for (int i = 0; i < 6; i++) {
            line.train(true, 0, 0, 0);
        }
        for (int i = 0; i < 502; i++) {
            AT.due("free, again and again", line.free(), 5);
        }
        AT.due("511 calls of trains, then leaves", line.leaves(5, 0), 25);
        OneTime towers = Filling.withTowns(0);
        for (int i = 0; i < 7; i++) {
            towers.tower(0, 0, 48);
        }
        for (int i = 0; i < 503; i++) {
            AT.due("round, again and again", towers.round(0, 0), 6);
        }
        AT.due("511 calls of towers, then row", towers.row(7), 210);
        OneTime wrong = new OneTime();
        for (int i = 0; i < 511; i++) {
            AT.due("refused, again and again", Bounds.call(wrong, x -> x.read(0, 0)), NO_SUCH);
        }
        AT.due("511 refused calls, then town", wrong.town(720), 0);
    }

    // ---- terms 1

    private static void terms() {
        termMinutes();
        termDays();
        termAlikeEverywhere();
        termTowns();
        termSuns();
        termFromItsMinute0();
        termKindSun();
        termKindZone();
        termKindRail();
        termGreatestDay();
        termToldLast();
        termWithoutAny();
        termReadings();
    }

    private static void termMinutes() {
        AT.term(1, "MINUTES are 0 .. 575999");
        AT.edges("read(0, ?)", Filling.SOME, 0, 575999, NO_SUCH, (x, v) -> x.read(0, v));
        AT.edges("judged(0, 0, ?)", Filling.SOME, 0, 575999, NO_SUCH, (x, v) -> x.judged(0, 0, v));
        AT.edges("tower(0, ?, 0)", Filling.SOME, 0, 575999, NONE, (x, v) -> x.tower(0, v, 0));
        AT.edges("error(0, ?)", Filling.SOME, 0, 575999, NO_SUCH, (x, v) -> x.error(0, v));
        AT.edges("set(0, ?)", Filling.SOME, 0, 575999, NO_SUCH, (x, v) -> x.set(0, v));
        AT.due("read(0, 575999)", Filling.withTowns(0).read(0, 575999), 575999);
    }

    private static void termDays() {
        AT.term(1, "(DAYS 0 .. 399 of 1440 each)");
        AT.edges("clock(0, ?, 1, 1)", Filling.SOME, 0, 399, NONE, (x, v) -> x.clock(0, v, 1, 1));
        AT.edges("one(?) of no towns", Filling.EMPTY, 0, 399, NONE, OneTime::one);
        AT.edges("late(0, 0, ?, 399, 0, 0)", Filling.SOME, 0, 399, NONE, (x, v) -> x.late(0, 0, v, 399, 0, 0));
        AT.edges("late(0, 0, 0, ?, 0, 0)", Filling.SOME, 0, 399, NONE, (x, v) -> x.late(0, 0, 0, v, 0, 0));
        // 2 to the 27th days are a wrap-around of minutes to 0.
        AT.refused("clock from a day far off", Filling.SOME, NONE, x -> x.clock(0, 1 << 27, 1, 1));
        AT.refused("train on a day far off", Filling.SOME, NONE, x -> x.train(true, 1 << 27, 700, 0));
        OneTime x = Filling.withTowns(0);
        AT.due("all days are 400", x.late(0, 0, 0, 399, 1, 0), 400);
        AT.due("the last minute of the last day", x.read(0, 399 * 1440 + 1439), 575999);
    }

    private static void termAlikeEverywhere() {
        AT.term(1, "alike everywhere");
        OneTime x = Filling.withTowns(-720, 0, 720);
        for (int minute : new int[] {0, 719, 720, 1439, 1440, 575279, 575999}) {
            for (int town = 0; town < 3; town++) {
                AT.due("minute " + minute + " by the sun of " + town, x.read(town, minute) - 720 * (town - 1), minute);
            }
            AT.due("minute " + minute + " of both", x.turned(0, minute - 720, 2), minute + 720);
        }
    }

    private static void termTowns() {
        AT.term(1, "TOWNS 0 .. (at most 16)");
        AT.edges("read(?, 0) of 16", Filling.FULL, 0, 15, NO_SUCH, (x, v) -> x.read(v, 0));
        AT.edges("read(?, 0) of 3", Filling.SOME, 0, 2, NO_SUCH, (x, v) -> x.read(v, 0));
        AT.due("a 16th", Filling.ALMOST.make().count(0), 16);
        AT.refused("a 17th", Filling.ALMOST, NONE, x -> x.town(0));
    }

    private static void termSuns() {
        AT.term(1, "each with a SUN -720 .. 720: by the sun it is MINUTE and SUN there.");
        for (int sun = -720; sun <= 720; sun++) {
            OneTime x = new OneTime();
            AT.due("town(" + sun + ")", x.town(sun), 0);
            AT.due("sun " + sun + " at first", x.read(0, 0), sun);
            AT.due("sun " + sun + " at last", x.read(0, 575999), 575999 + sun);
        }
        AT.edges("town(?)", Filling.SOME, -720, 720, NONE, OneTime::town);
    }

    private static void termFromItsMinute0() {
        AT.term(1, "CLOCK of a TOWN: told from a DAY on (from its MINUTE 0)");
        for (int day = 0; day < 400; day++) {
            OneTime x = Filling.withTowns(0, 0);
            x.clock(0, day, 1, 1);
            int minute = day * 1440;
            if (day > 0) {
                AT.due("the minute ahead of day " + day, x.read(0, minute - 1), minute - 1);
            }
            AT.due("minute 0 of day " + day, x.read(0, minute), minute + 60);
            AT.due("the last minute of day " + day, x.read(0, minute + 1439), minute + 1499);
            AT.due("to the end, from day " + day, x.read(0, 575999), 576059);
            AT.due("another town", x.read(1, minute), minute);
        }
    }

    private static void termKindSun() {
        AT.term(1, "of a KIND: 0 SUN: its own.");
        for (int arg : new int[] {0, -1, 13, 16, LEAST, GREATEST}) {
            OneTime x = Filling.withTowns(33, 44);
            x.clock(0, 0, 1, 12);
            AT.due("KIND 0 whatever arg is", x.clock(0, 0, 0, arg), 2);
            AT.due("its own sun", x.read(0, 100), 133);
        }
        AT.edges("clock(0, 0, ?, 1)", Filling.SOME, 0, 2, NONE, (x, v) -> x.clock(0, 0, v, 1));
    }

    private static void termKindZone() {
        AT.term(1, "1 ZONE z (-12 .. 12): 60 times z.");
        for (int z = -12; z <= 12; z++) {
            OneTime x = Filling.withTowns(7);
            AT.due("zone " + z, x.clock(0, 0, 1, z), 1);
            AT.due("zone " + z + " shows", x.read(0, 1000), 1000 + 60 * z);
        }
        AT.edges("clock(0, 0, 1, ?)", Filling.SOME, -12, 12, NONE, (x, v) -> x.clock(0, 0, 1, v));
        // 60 times this is a wrap-around to 0.
        AT.refused("a zone far off", Filling.SOME, NONE, x -> x.clock(0, 0, 1, 1 << 30));
    }

    private static void termKindRail() {
        AT.term(1, "2 RAIL u: the SUN of TOWN u, another one.");
        OneTime x = Filling.withTowns(-720, 720, 5);
        x.clock(1, 0, 1, 3);
        AT.due("rail of the one behind", x.clock(0, 0, 2, 1), 2);
        AT.due("its sun, not its clock", x.read(0, 0), 720);
        AT.due("rail of the first", x.clock(2, 0, 2, 0), 3);
        AT.due("its sun, not its rail", x.read(2, 0), -720);
        AT.edges("clock(0, 0, 2, ?)", Filling.SOME, 1, 2, NONE, (y, v) -> y.clock(0, 0, 2, v));
        AT.edges("clock(2, 0, 2, ?)", Filling.SOME, 0, 1, NONE, (y, v) -> y.clock(2, 0, 2, v));
        AT.refused("its own rail, between", Filling.SOME, NONE, y -> y.clock(1, 0, 2, 1));
        AT.edges("clock(0, 0, 2, ?)", Filling.ALMOST, 1, 15, NONE, (y, v) -> y.clock(0, 0, 2, v));
        AT.due("a rail to a single town", Filling.withTowns(5).clock(0, 0, 2, 0), NONE);
    }

    private static void termGreatestDay() {
        AT.term(1, "On a DAY that CLOCK holds whose DAY is the greatest not above it");
        OneTime x = Filling.withTowns(0);
        x.clock(0, 399, 1, 4);
        x.clock(0, 10, 1, 2);
        x.clock(0, 11, 1, 3);
        x.clock(0, 0, 1, 1);
        int[] days = {0, 9, 10, 11, 12, 398, 399};
        int[] zones = {1, 1, 2, 3, 3, 3, 4};
        for (int i = 0; i < days.length; i++) {
            AT.due("minute 0 of day " + days[i], x.read(0, days[i] * 1440) - days[i] * 1440, 60 * zones[i]);
            AT.due("the end of day " + days[i], x.read(0, days[i] * 1440 + 1439) - days[i] * 1440 - 1439, 60 * zones[i]);
        }
    }

    private static void termToldLast() {
        AT.term(1, "of equal ones the one told last");
        for (int day : new int[] {0, 200, 399}) {
            OneTime x = Filling.withTowns(0, 0);
            x.clock(0, day, 1, 5);
            x.clock(0, day, 1, -5);
            x.clock(1, day, 1, 7);
            AT.due("of two from day " + day, x.read(0, day * 1440), day * 1440 - 300);
            x.clock(0, day, 0, 0);
            AT.due("of three from day " + day, x.read(0, day * 1440), day * 1440);
            AT.due("another town's", x.read(1, day * 1440), day * 1440 + 420);
        }
    }

    private static void termWithoutAny() {
        AT.term(1, "without any KIND 0.");
        OneTime x = Filling.withTowns(-50, 50);
        AT.due("without any clock", x.read(0, 575999), 575949);
        x.clock(1, 0, 1, 1);
        AT.due("with another town's clock", x.read(0, 575999), 575949);
        x.clock(0, 399, 1, 1);
        AT.due("ahead of the first clock's day", x.read(0, 399 * 1440 - 1), 399 * 1440 - 51);
    }

    private static void termReadings() {
        AT.term(1, "A CLOCK shows MINUTE and this (READING: also below 0, or above all MINUTES).");
        OneTime x = Filling.withTowns(-720, 720, 0);
        AT.due("below 0 by the sun", x.read(0, 0), -720);
        AT.due("-1", x.read(0, 719), -1);
        AT.due("0", x.read(0, 720), 0);
        AT.due("above all by the sun", x.read(1, 575999), 576719);
        AT.due("576000", x.read(1, 575280), 576000);
        x.clock(2, 0, 1, -12);
        AT.due("below 0 by a zone", x.read(2, 0), -720);
        x.clock(2, 0, 1, 12);
        AT.due("above all by a zone", x.read(2, 575999), 576719);
        x.clock(2, 0, 2, 0);
        AT.due("below 0 by a rail", x.read(2, 0), -720);
        AT.due("when it shows -720", x.when(2, -720), 1);
        x.clock(2, 0, 2, 1);
        AT.due("above all by a rail", x.read(2, 575999), 576719);
        AT.due("when it shows 576719", x.when(2, 576719), 1);
    }

    // ---- promise 1: a new object

    private static void promise1() {
        AT.promise(1, "No TOWNS, STATIONS, TRAINS, LAWS, TOWERS.");
        for (int what = 0; what <= 7; what++) {
            AT.due("count(" + what + ")", new OneTime().count(what), 0);
        }
        Filling empty = Filling.EMPTY;
        AT.refused("clock", empty, NONE, x -> x.clock(0, 0, 0, 0));
        AT.refused("untell", empty, NONE, OneTime::untell);
        AT.refused("read", empty, NO_SUCH, x -> x.read(0, 0));
        AT.refused("when", empty, NONE, x -> x.when(0, 0));
        AT.refused("turned", empty, NO_SUCH, x -> x.turned(0, 0, 0));
        AT.refused("unlike", empty, NONE, x -> x.unlike(0, 0));
        AT.refused("station", empty, NONE, x -> x.station(0, 1));
        AT.refused("train", empty, NONE, x -> x.train(true, 0, 0, 0));
        AT.refused("leaves", empty, NONE, x -> x.leaves(0, 0));
        AT.refused("delay", empty, 0, x -> x.delay(0, 0) ? 1 : 0);
        AT.refused("meet", empty, 0, OneTime::meet);
        AT.refused("free", empty, 0, OneTime::free);
        AT.refused("close", empty, 0, OneTime::close);
        AT.refused("end", empty, 0, x -> x.end(1) ? 1 : 0);
        AT.refused("law", empty, -100, x -> x.law(0, 0));
        AT.refused("judged", empty, NO_SUCH, x -> x.judged(0, 0, 0));
        AT.refused("late", empty, NONE, x -> x.late(0, 0, 0, 0, 0, 0));
        AT.refused("tower", empty, NONE, x -> x.tower(0, 0, 0));
        AT.refused("error", empty, NO_SUCH, x -> x.error(0, 0));
        AT.refused("set", empty, NO_SUCH, x -> x.set(0, 0));
        AT.refused("round", empty, NONE, x -> x.round(0, 0));
        AT.refused("row", empty, NO_SUCH, x -> x.row(0));
        AT.alike("another object that is filled", Filling.EMPTY, x -> Filling.FULL.make().count(0), x -> 0);
    }

    // ---- promise 2: town

    private static void promise2() {
        promise2ItsNumber();
        promise2AnotherSun();
        promise2Sixteen();
    }

    private static void promise2ItsNumber() {
        AT.promise(2, "A TOWN: its number.");
        OneTime x = new OneTime();
        for (int i = 0; i < 16; i++) {
            AT.due("town " + i, x.town(Filling.SUNS[i]), i);
        }
        for (int i = 0; i < 16; i++) {
            AT.due("the sun of town " + i, x.read(i, 1000), 1000 + Filling.SUNS[i]);
        }
        AT.due("a number behind refused ones", Bounds.call(Filling.withTowns(721, 0, -721), y -> y.town(0)), 1);
    }

    private static void promise2AnotherSun() {
        AT.promise(2, "NONE: another SUN");
        for (Filling filling : new Filling[] {Filling.EMPTY, Filling.SOME}) {
            AT.edges("town(?)", filling, -720, 720, NONE, OneTime::town);
        }
    }

    private static void promise2Sixteen() {
        AT.promise(2, ", 16.");
        AT.due("the 16th", Filling.withTowns(1, 2, 3, 4, 5, 6, 7, 8, 9, 10, 11, 12, 13, 14, 15).town(720), 15);
        for (int sun : new int[] {-720, 0, 720, 721}) {
            AT.refused("town(" + sun + "), the 17th", Filling.FULL, NONE, y -> y.town(sun));
        }
    }

    // ---- promise 3: clock

    private static void promise3() {
        promise3HowMany();
        promise3NoSuchTown();
        promise3NoSuchNumbers();
        promise3Sixty();
    }

    private static void promise3HowMany() {
        AT.promise(3, "A CLOCK from a DAY on: how many were told in all.");
        OneTime x = Filling.withTowns(0, 0, 0);
        for (int i = 0; i < 60; i++) {
            AT.due("clock " + i, x.clock(i % 3, 399 - i, i % 3, i % 3 == 2 ? 0 : 1), i + 1);
        }
    }

    private static void promise3NoSuchTown() {
        AT.promise(3, "NONE: no such TOWN");
        AT.edges("clock(?, 0, 0, 0)", Filling.SOME, 0, 2, NONE, (y, v) -> y.clock(v, 0, 0, 0));
        AT.edges("clock(?, 0, 0, 0)", Filling.ALMOST, 0, 15, NONE, (y, v) -> y.clock(v, 0, 0, 0));
    }

    private static void promise3NoSuchNumbers() {
        AT.promise(3, ", DAY, KIND, z, u");
        for (int arg = 0; arg <= 2; arg++) {
            int kind = arg;
            AT.edges("clock(0, ?, " + kind + ", 1)", Filling.ALMOST, 0, 399, NONE, (y, v) -> y.clock(0, v, kind, 1));
        }
        AT.edges("clock(0, 0, ?, 1)", Filling.ALMOST, 0, 2, NONE, (y, v) -> y.clock(0, 0, v, 1));
        AT.edges("clock(0, 0, 1, ?)", Filling.ALMOST, -12, 12, NONE, (y, v) -> y.clock(0, 0, 1, v));
        AT.edges("clock(15, 0, 2, ?)", Filling.ALMOST, 0, 14, NONE, (y, v) -> y.clock(15, 0, 2, v));
    }

    private static void promise3Sixty() {
        AT.promise(3, "; 60.");
        AT.due("the 60th", Filling.ALMOST.make().clock(0, 399, 0, 0), 60);
        for (int i = 0; i <= 2; i++) {
            int kind = i;
            AT.refused("the 61st of KIND " + kind, Filling.FULL, NONE, y -> y.clock(0, 0, kind, 1));
        }
        AT.refused("the 61st of another town", Filling.FULL, NONE, y -> y.clock(15, 399, 0, 0));
    }

    // ---- promise 4: untell

    private static void promise4() {
        promise4AsIfItWasNot();
        promise4ThereIsNone();
    }

    private static void promise4AsIfItWasNot() {
        AT.promise(4, "The latest CLOCK that was told is as if it was not: how many there are.");
        AT.alike("clock and untell", Filling.SOME, x -> x.clock(0, 5, 1, 9) + x.untell(), x -> 0);
        AT.alike("the 60th and untell", Filling.ALMOST, x -> x.clock(15, 0, 2, 3) + x.untell(), x -> 0);
        AT.alike("a refused one is not the latest", Filling.SOME, x -> x.clock(0, 400, 1, 9) + x.untell(), OneTime::untell);
        AT.alike("nor is the 61st", Filling.FULL, x -> x.clock(0, 0, 1, 9) + x.untell(), OneTime::untell);
        OneTime x = Filling.FULL.make();
        for (int left = 59; left >= 0; left--) {
            AT.due("untell to " + left, x.untell(), left);
            AT.due("count(1)", x.count(1), left);
        }
        AT.due("none is left: the sun", x.read(4, 575999), 576719);
        AT.due("told anew", x.clock(4, 399, 1, -12), 1);
        AT.due("it shows", x.read(4, 575999), 575279);
    }

    private static void promise4ThereIsNone() {
        AT.promise(4, "NONE: there is none.");
        AT.refused("untell of a new object", Filling.EMPTY, NONE, OneTime::untell);
        AT.alike("untell once too often", Filling.SOME, TownBoundsTest::untellFive, y -> untellFive(y) + y.untell());
        AT.due("untell once too often", Bounds.call(Filling.SOME.make(), TownBoundsTest::untellFive), NONE);
    }

    /** Once more than SOME has clocks: what the last one answers. */
    private static long untellFive(OneTime x) {
        for (int i = 0; i < 4; i++) {
            x.untell();
        }
        return x.untell();
    }

    // ---- promise 5: count

    private static void promise5() {
        promise5Counts();
        promise5AnotherWhat();
    }

    private static void promise5Counts() {
        AT.promise(5, "What 0: TOWNS, 1: CLOCKS, 2: STATIONS, 3: TRAINS, 4: LAWS, 5: TOWERS, 6: numbers of the ROW, "
            + "7: signs on THE TAPE.");
        int[][] counts = {{0, 0, 0, 0, 0, 0, 0, 0}, {3, 4, 3, 2, 2, 2, 3, 10}, {16, 59, 5, 0, 19, 6, 7, 96},
            {16, 60, 6, 6, 20, 7, 8, 100}};
        for (Filling filling : Filling.values()) {
            for (int what = 0; what <= 7; what++) {
                AT.due("count(" + what + ") of " + filling, filling.make().count(what), counts[filling.ordinal()][what]);
            }
        }
    }

    private static void promise5AnotherWhat() {
        AT.promise(5, "NONE for another what.");
        for (Filling filling : Filling.values()) {
            AT.edges("count(?)", filling, 0, 7, NONE, OneTime::count);
        }
    }

    // ---- promise 6: read

    private static void promise6() {
        promise6Reading();
        promise6NoSuchTown();
        promise6NoSuchMinute();
    }

    private static void promise6Reading() {
        AT.promise(6, "READING of a TOWN's CLOCK.");
        OneTime x = Filling.withTowns(-720, 720);
        AT.due("the least", x.read(0, 0), -720);
        AT.due("the greatest", x.read(1, 575999), 576719);
        AT.alike("read", Filling.SOME, y -> y.read(0, 0), y -> 0);
    }

    private static void promise6NoSuchTown() {
        AT.promise(6, "NoSuchElementException: no such TOWN");
        AT.edges("read(?, 0)", Filling.SOME, 0, 2, NO_SUCH, (y, v) -> y.read(v, 0));
        AT.edges("read(?, 575999)", Filling.FULL, 0, 15, NO_SUCH, (y, v) -> y.read(v, 575999));
    }

    private static void promise6NoSuchMinute() {
        AT.promise(6, ", MINUTE.");
        AT.edges("read(0, ?)", Filling.SOME, 0, 575999, NO_SUCH, (y, v) -> y.read(0, v));
        AT.edges("read(15, ?)", Filling.FULL, 0, 575999, NO_SUCH, (y, v) -> y.read(15, v));
    }

    // ---- promise 7: when

    private static void promise7() {
        promise7AllMinutes();
        promise7NoSuchTown();
    }

    private static void promise7AllMinutes() {
        AT.promise(7, "The ROW: all MINUTES at which a TOWN's CLOCK shows a READING, ascending: how many.");
        int[][] changes = {{720, -12}, {-720, 12}, {719, -12}, {-719, 12}, {0, 0}, {0, 1}, {0, -1}, {720, 12}, {-720, -12}};
        for (int[] change : changes) {
            whenOver(change[0], 1, change[1], -730, 2 * 1440 + 730);
            whenOver(change[0], 399, change[1], 399 * 1440 - 730, 400 * 1440 + 730);
        }
        for (int reading : new int[] {LEAST, LEAST + 719, LEAST + 720, LEAST + 721, GREATEST - 720, GREATEST}) {
            OneTime x = Filling.withTowns(-720, 720);
            AT.due("when(0, " + reading + ")", x.when(0, reading), 0);
            AT.due("when(1, " + reading + ")", x.when(1, reading), 0);
        }
        OneTime x = Filling.FULL.make();
        x.when(5, 1000000);
        AT.row("none behind eight numbers", x);
    }

    private static void promise7NoSuchTown() {
        AT.promise(7, "NONE: no such TOWN.");
        AT.edges("when(?, 1000)", Filling.SOME, 0, 2, NONE, (y, v) -> y.when(v, 1000));
        AT.edges("when(?, 1000)", Filling.FULL, 0, 15, NONE, (y, v) -> y.when(v, 1000));
    }

    /** All readings of some days around the day of a change, against all minutes of these days. */
    private static void whenOver(int sun, int day, int zone, int from, int to) {
        OneTime x = null;
        for (int reading = from; reading < to; reading++) {
            if (x == null || reading % 60 == 0) {
                x = Filling.withTowns(sun);
                x.clock(0, day, 1, zone);
            }
            List<Integer> want = new ArrayList<>();
            for (int minute = Math.max(0, reading - 720); minute <= Math.min(575999, reading + 720); minute++) {
                if (minute + (minute / 1440 < day ? sun : 60 * zone) == reading) {
                    want.add(minute);
                }
            }
            String call = "sun " + sun + ", zone " + zone + " from " + day + " on: when(0, " + reading + ")";
            AT.due(call, x.when(0, reading), want.size());
            AT.row(call, x, want.stream().mapToInt(Integer::intValue).toArray());
        }
    }

    // ---- promise 8: turned

    private static void promise8() {
        promise8FirstMinute();
        promise8NoSuchTowns();
        promise8NeverDoes();
    }

    private static void promise8FirstMinute() {
        AT.promise(8, "The READING of TOWN b's CLOCK at the first MINUTE at which that of a shows one.");
        OneTime x = Filling.withTowns(720, -720, 0);
        AT.due("the first minute", x.turned(0, 720, 1), -720);
        AT.due("the last minute", x.turned(1, 575279, 0), 576719);
        x.clock(0, 1, 1, -12);
        // 720 is shown at 0 and at 1440, 2159 at 1439 and at 2879.
        AT.due("the first of two", x.turned(0, 720, 2), 0);
        AT.due("the first of the last two", x.turned(0, 2159, 2), 1439);
        AT.due("of one, behind", x.turned(0, 2160, 2), 2880);
        AT.due("by b's clock of that day", x.turned(2, 1440, 0), 720);
        AT.due("and of the day ahead", x.turned(2, 1439, 0), 2159);
        AT.due("a is b", x.turned(0, 2159, 0), 2159);
        AT.alike("turned", Filling.FULL, y -> y.turned(0, 5000, 1), y -> 0);
    }

    private static void promise8NoSuchTowns() {
        AT.promise(8, "NoSuchElementException: no such TOWNS");
        AT.edges("turned(?, 5000, 0)", Filling.SOME, 0, 2, NO_SUCH, (y, v) -> y.turned(v, 5000, 0));
        AT.edges("turned(0, 5000, ?)", Filling.SOME, 0, 2, NO_SUCH, (y, v) -> y.turned(0, 5000, v));
        AT.edges("turned(0, 5000, ?)", Filling.FULL, 0, 15, NO_SUCH, (y, v) -> y.turned(0, 5000, v));
    }

    private static void promise8NeverDoes() {
        AT.promise(8, ", it never does.");
        OneTime gap = Filling.withTowns(-720, 720);
        gap.clock(0, 1, 1, 12);
        AT.due("ahead of the gap", gap.turned(0, 719, 1), 2159);
        AT.due("the first left out", Bounds.call(gap, y -> y.turned(0, 720, 1)), NO_SUCH);
        AT.due("the last left out", Bounds.call(gap, y -> y.turned(0, 2159, 1)), NO_SUCH);
        AT.due("behind the gap", gap.turned(0, 2160, 1), 2160);
        AT.due("ahead of minute 0", Bounds.call(gap, y -> y.turned(0, -721, 1)), NO_SUCH);
        AT.due("minute 0", gap.turned(0, -720, 1), 720);
        AT.due("the last minute", gap.turned(1, 576719, 0), 576719);
        AT.due("behind the last minute", Bounds.call(gap, y -> y.turned(1, 576720, 0)), NO_SUCH);
        for (int reading : new int[] {LEAST, LEAST + 720, -721, 576720, GREATEST}) {
            AT.refused("turned(0, " + reading + ", 1)", Filling.FULL, NO_SUCH, y -> y.turned(0, reading, 1));
        }
    }

    // ---- promise 9: unlike

    private static void promise9() {
        promise9HowManyDays();
        promise9NoneSuch();
    }

    private static void promise9HowManyDays() {
        AT.promise(9, "On how many DAYS two TOWNS' CLOCKS differ.");
        OneTime x = Filling.withTowns(0, 0, 1);
        AT.due("on none", x.unlike(0, 1), 0);
        AT.due("on all", x.unlike(0, 2), 400);
        AT.due("from itself", x.unlike(2, 2), 0);
        x.clock(1, 399, 1, 1);
        AT.due("on the last day", x.unlike(0, 1), 1);
        x.clock(0, 399, 1, 1);
        AT.due("on the last day no more", x.unlike(0, 1), 0);
        x.clock(0, 0, 1, 2);
        x.clock(0, 1, 0, 0);
        AT.due("on the first day", x.unlike(0, 1), 1);
        x.clock(1, 0, 2, 2);
        AT.due("on all but the last", x.unlike(1, 0), 399);
        int differ = 0;
        for (int day = 0; day < 400; day++) {
            OneTime full = fullOfChanges();
            differ += full.read(0, day * 1440) != full.read(1, day * 1440) ? 1 : 0;
        }
        AT.due("60 changes", fullOfChanges().unlike(0, 1), differ);
        AT.alike("unlike", Filling.FULL, z -> z.unlike(0, 1), z -> 0);
    }

    private static void promise9NoneSuch() {
        AT.promise(9, "NONE: none such.");
        AT.edges("unlike(?, 1)", Filling.SOME, 0, 2, NONE, (z, v) -> z.unlike(v, 1));
        AT.edges("unlike(1, ?)", Filling.SOME, 0, 2, NONE, (z, v) -> z.unlike(1, v));
        AT.edges("unlike(15, ?)", Filling.FULL, 0, 15, NONE, (z, v) -> z.unlike(15, v));
    }

    private static OneTime fullOfChanges() {
        OneTime x = Filling.withTowns(0, 0);
        for (int i = 0; i < 60; i++) {
            x.clock(i % 2, 399 - 6 * i, 1, i % 4);
        }
        return x;
    }

    // ---- promise 10: one

    private static void promise10() {
        promise10FirstDay();
        promise10NoneOrOne();
        promise10ThereIsNone();
        promise10NoSuchDay();
    }

    private static void promise10FirstDay() {
        AT.promise(10, "The first DAY from one on, on which all TOWNS' CLOCKS are alike");
        OneTime x = Filling.withTowns(0, 0, 60);
        x.clock(2, 399, 1, 0);
        AT.due("the last day", x.one(0), 399);
        AT.due("from the last day on", x.one(399), 399);
        x.clock(2, 0, 1, 0);
        AT.due("the first day", x.one(0), 0);
        x.clock(1, 100, 1, 1);
        x.clock(1, 102, 1, 0);
        int[] from = {99, 100, 101, 102, 399};
        int[] found = {99, 102, 102, 102, 399};
        for (int i = 0; i < from.length; i++) {
            AT.due("from day " + from[i] + " on", x.one(from[i]), found[i]);
        }
        // Alike on the days 5 .. 9 and 399 alone, whichever change was told first.
        int[] days = {5, 10, 399};
        int[][] orders = {{0, 1, 2}, {0, 2, 1}, {1, 0, 2}, {1, 2, 0}, {2, 0, 1}, {2, 1, 0}};
        for (int[] order : orders) {
            OneTime some = Filling.withTowns(0, 1);
            for (int i : order) {
                some.clock(1, days[i], 1, i == 1 ? 1 : 0);
            }
            AT.due("the first of five days", some.one(0), 5);
            AT.due("the last of five days", some.one(9), 9);
            AT.due("behind five days", some.one(10), 399);
        }
        OneTime full = new OneTime();
        for (int i = 0; i < 16; i++) {
            full.town(i == 15 ? 1 : 0);
        }
        AT.due("the last of 16 is another", full.one(0), NONE);
        full.clock(15, 200, 1, 0);
        AT.due("all 16", full.one(0), 200);
        AT.alike("one", Filling.FULL, y -> y.one(0), y -> 0);
    }

    private static void promise10NoneOrOne() {
        AT.promise(10, "(with none or one: that DAY)");
        OneTime one = Filling.withTowns(720);
        one.clock(0, 399, 1, 3);
        for (int day : new int[] {0, 1, 398, 399}) {
            AT.due("none, one(" + day + ")", new OneTime().one(day), day);
            AT.due("one, one(" + day + ")", one.one(day), day);
        }
    }

    private static void promise10ThereIsNone() {
        AT.promise(10, "NONE: there is none");
        AT.due("unlike suns", Filling.withTowns(0, 1).one(0), NONE);
        OneTime gone = Filling.withTowns(0, 0);
        gone.clock(0, 399, 1, 1);
        AT.due("the day ahead", gone.one(398), 398);
        AT.due("on the last day no more", gone.one(399), NONE);
    }

    private static void promise10NoSuchDay() {
        AT.promise(10, ", no such DAY.");
        for (int day : new int[] {-1, 400, LEAST, GREATEST}) {
            for (Filling filling : Filling.values()) {
                AT.refused("one(" + day + ")", filling, NONE, y -> y.one(day));
            }
        }
        AT.edges("one(?) of no towns", Filling.EMPTY, 0, 399, NONE, OneTime::one);
    }
}
