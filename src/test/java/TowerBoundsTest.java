/** The boundary cases of the terms 4 and the promises 23 to 27, sentence by sentence: towers, rounds, the row. */
public final class TowerBoundsTest {
    private static final long NO_SUCH = Bounds.NO_SUCH;
    private static final int NONE = OneTime.NONE;
    private static final int LEAST = Bounds.LEAST;
    private static final int GREATEST = Bounds.GREATEST;
    private static final Bounds AT = new Bounds("TowerBoundsTest", "Terms 4", "Promise 23", "Promise 24", "Promise 25",
        "Promise 26", "Promise 27");

    public static void main(String[] args) {
        terms();
        promise23();
        promise24();
        promise25();
        promise26();
        promise27();
        AT.finish();
    }

    /** One tower of the town 0, whose sun is 0, set at a minute. */
    private static OneTime oneTower(int minute, int drift) {
        OneTime x = Filling.withTowns(0);
        x.tower(0, minute, drift);
        return x;
    }

    /** Towns with these suns, and a tower of each but the first, set at minute 0 and without drift. */
    private static OneTime oneOfEach(int... suns) {
        OneTime x = Filling.withTowns(suns);
        for (int town = 1; town < suns.length; town++) {
            x.tower(town, 0, 0);
        }
        return x;
    }

    private static void round(String what, OneTime x, int minute, int worst, int... row) {
        AT.due(what, x.round(0, minute), worst);
        AT.row(what, x, row);
    }

    // ---- terms 4

    private static void terms() {
        termTowers();
        termSetRight();
        termDrift();
        termError();
        termWay();
        termLeastOfGreatest();
        termEarliestEnd();
        termFirstByNumbers();
        termRow();
    }

    private static void termTowers() {
        AT.term(4, "TOWERS: at most 7, each of a TOWN");
        AT.due("a 7th", Filling.ALMOST.make().tower(0, 0, 0), 6);
        AT.refused("an 8th", Filling.FULL, NONE, x -> x.tower(0, 0, 0));
        AT.edges("error(?, 575999) of seven", Filling.FULL, 0, 6, NO_SUCH, (x, v) -> x.error(v, 575999));
        AT.edges("error(?, 575999) of two", Filling.SOME, 0, 1, NO_SUCH, (x, v) -> x.error(v, 575999));
        AT.edges("tower(?, 0, 0)", Filling.ALMOST, 0, 15, NONE, (x, v) -> x.tower(v, 0, 0));
        round("its town's sun", oneOfEach(0, -720), 0, 0, 0, 7230);
        round("its town's sun", oneOfEach(0, 720), 0, 0, 0, 7230);
    }

    private static void termSetRight() {
        AT.term(4, "SET right at a MINUTE");
        for (int minute : new int[] {0, 1, 1440, 575998, 575999}) {
            for (int drift : new int[] {-600, 0, 600}) {
                OneTime x = oneTower(minute, drift);
                AT.due("right at " + minute, x.error(0, minute), 0);
                AT.due("not ahead of " + minute, Bounds.call(x, y -> y.error(0, minute - 1)), NO_SUCH);
            }
        }
    }

    private static void termDrift() {
        AT.term(4, "with a DRIFT of -600 .. 600 seconds a DAY.");
        AT.edges("tower(0, 0, ?)", Filling.ALMOST, -600, 600, NONE, (x, v) -> x.tower(0, 0, v));
        for (int drift = -600; drift <= 600; drift++) {
            OneTime x = oneTower(500, drift);
            AT.due(drift + " in a day", x.error(0, 1940), drift);
            AT.due(drift + " in 399 days", x.error(0, 500 + 399 * 1440), 399 * drift);
        }
    }

    private static void termError() {
        AT.term(4, "ERROR at a later MINUTE: DRIFT times the MINUTES since, by 1440, cut toward 0.");
        int[][] asked = {{1, 1439, 0}, {1, 1440, 1}, {1, 1441, 1}, {1, 2879, 1}, {1, 2880, 2}, {600, 1, 0}, {600, 2, 0},
            {600, 3, 1}, {600, 4, 1}, {600, 5, 2}, {599, 2, 0}, {599, 3, 1}, {479, 3, 0}, {480, 3, 1}, {600, 575999, 239999},
            {1, 575999, 399}, {0, 575999, 0}};
        for (int[] ask : asked) {
            AT.due(ask[0] + " at " + ask[1], oneTower(0, ask[0]).error(0, ask[1]), ask[2]);
            AT.due(-ask[0] + " at " + ask[1], oneTower(0, -ask[0]).error(0, ask[1]), -ask[2]);
        }
        AT.due("since it was set", oneTower(575000, -600).error(0, 575999), -416);
    }

    private static void termWay() {
        AT.term(4, "A ROUND begins at a TOWN, at a MINUTE: the setter goes to all TOWERS in some order: from TOWN to TOWN "
            + "10 minutes for each that their SUNS are apart, then 30 minutes at the TOWER (its ERROR is seen as it comes).");
        round("at once", oneTower(0, 600), 0, 0, 0, 30);
        round("as it comes, not as it is left", oneTower(0, 600), 1440, 600, 0, 1470);
        OneTime far = Filling.withTowns(720, -720);
        far.tower(1, 0, 600);
        round("from one end to the other", far, 0, 6000, 0, 14430);
        OneTime near = Filling.withTowns(0, 1);
        near.tower(1, 0, -144);
        round("one apart", near, 0, 1, 0, 40);
        OneTime same = Filling.withTowns(5, 5);
        same.tower(1, 0, 48);
        same.tower(0, 0, 48);
        round("no way, 30 minutes each", same, 0, 1, 0, 1, 60);
        OneTime clocks = Filling.withTowns(0, 10);
        clocks.clock(0, 0, 1, 12);
        clocks.clock(1, 0, 1, -12);
        clocks.tower(1, 0, 0);
        round("by suns, not by clocks", clocks, 0, 0, 0, 130);
        OneTime back = oneOfEach(0, 10, 0);
        round("the way begins at the town", back, 0, 0, 1, 0, 160);
    }

    private static void termLeastOfGreatest() {
        AT.term(4, "THE BEST ROUND: the order with the least of its greatest sizes of ERROR");
        OneTime later = Filling.withTowns(0, 10, -30);
        later.tower(1, 0, 10);
        later.tower(2, 0, -600);
        round("though it ends later", later, 0, 125, 1, 0, 760);
        // By size: 600 and then 611 is less than 599 and then 612.
        OneTime signs = Filling.withTowns(0);
        signs.tower(0, 0, 599);
        signs.tower(0, 0, -600);
        round("below 0 by its size", signs, 1440, 611, 1, 0, 1500);
        OneTime other = Filling.withTowns(0);
        other.tower(0, 0, -599);
        other.tower(0, 0, 600);
        round("above 0 by its size", other, 1440, 611, 1, 0, 1500);
        OneTime seven = Filling.withTowns(0);
        for (int i = 0; i < 7; i++) {
            seven.tower(0, 0, 48 * (i % 2 == 0 ? i : -i));
        }
        // Tower i as number k of the round is i times k seconds off: 9 at least (3 as number 3).
        round("seven", seven, 0, 9, 5, 6, 4, 3, 2, 0, 1, 210);
        for (int step = 1; step <= 40; step++) {
            roundOfAllOrders(4 + step % 3, step);
        }
        roundOfAllOrders(7, 3);
    }

    /** Towers whose towns and drifts are spread by a step, against all of their orders. */
    private static void roundOfAllOrders(int towers, int step) {
        OneTime x = new OneTime();
        PlainTime plain = new PlainTime();
        for (int i = 0; i < 7; i++) {
            int sun = i * step * 7 % 41 - 20;
            x.town(sun);
            plain.town(sun);
        }
        for (int i = 0; i < towers; i++) {
            int drift = i * step * 131 % 1201 - 600;
            x.tower(i, 10 * i, drift);
            plain.tower(i, 10 * i, drift);
        }
        String what = towers + " towers, spread by " + step;
        AT.due(what, x.round(step % 7, 100), plain.round(step % 7, 100));
        for (int i = 0; i <= towers; i++) {
            AT.due(what + ": row(" + i + ")", x.row(i), plain.row(i));
        }
    }

    private static void termEarliestEnd() {
        AT.term(4, "; of equal ones the earliest end");
        round("to the nearer side first", oneOfEach(0, -30, 20), 0, 0, 1, 0, 760);
        round("to the nearer side first, by one", oneOfEach(0, -21, 20), 0, 0, 1, 0, 670);
        round("both as near", oneOfEach(0, -20, 20), 0, 0, 0, 1, 660);
        round("along the way", oneOfEach(0, 30, 20, 10), 0, 0, 2, 1, 0, 390);
        // Both orders are a second off at the worst; the parts of a second, which are cut off, would choose the other one.
        OneTime cut = Filling.withTowns(0, -2, 1);
        cut.tower(1, 0, 12);
        cut.tower(2, 0, 10);
        round("of equal ones by the cut", cut, 100, 1, 1, 0, 200);
    }

    private static void termFirstByNumbers() {
        AT.term(4, "; then the first one by numbers.");
        OneTime seven = Filling.withTowns(0);
        for (int i = 0; i < 7; i++) {
            seven.tower(0, 0, 0);
        }
        round("all alike", seven, 0, 0, 0, 1, 2, 3, 4, 5, 6, 210);
        round("either side", oneOfEach(0, 10, -10), 0, 0, 0, 1, 360);
        round("either side, told the other way", oneOfEach(0, -10, 10), 0, 0, 0, 1, 360);
        round("the last two alike", oneOfEach(0, 10, 10, 5), 0, 0, 2, 0, 1, 190);
        round("the first two alike", oneOfEach(0, 10, 5, 5), 0, 0, 1, 2, 0, 190);
    }

    private static void termRow() {
        AT.term(4, "ROW: numbers told last by a call that says so.");
        Bounds.Act[] others = {x -> x.town(0), x -> x.clock(0, 0, 0, 0), OneTime::untell, x -> x.count(6), x -> x.read(0, 0),
            x -> x.turned(0, 5000, 1), x -> x.unlike(0, 1), x -> x.one(0), x -> x.station(0, 1),
            x -> x.train(true, 60, 700, 0), x -> x.leaves(0, 0), x -> x.delay(0, 1) ? 1 : 0, OneTime::free, OneTime::close,
            x -> x.sign(0), x -> x.end(3) ? 1 : 0, x -> x.law(0, 0), x -> x.judged(0, 0, 0),
            x -> x.late(0, 0, 0, 399, 0, 0), x -> x.tower(0, 0, 0), x -> x.error(0, 5000), x -> x.set(0, 5000), x -> x.row(0)};
        for (Filling filling : new Filling[] {Filling.SOME, Filling.ALMOST, Filling.FULL}) {
            for (int i = 0; i < others.length; i++) {
                int[] before = rowOf(filling.make());
                OneTime x = filling.make();
                Bounds.call(x, others[i]);
                AT.row("call " + i + " that tells no row, on " + filling, x, before);
            }
        }
        OneTime x = Filling.FULL.make();
        AT.due("round told 8", x.count(6), 8);
        x.meet();
        AT.due("meet told 3", x.count(6), 3);
        x.when(5, 2000000);
        AT.row("when told none", x);
        x.round(1, 3000);
        AT.due("round told 8 again", x.count(6), 8);
    }

    private static int[] rowOf(OneTime x) {
        int[] row = new int[x.count(6)];
        for (int i = 0; i < row.length; i++) {
            row[i] = x.row(i);
        }
        return row;
    }

    // ---- promise 23: tower

    private static void promise23() {
        promise23ItsNumber();
        promise23NoSuchNumbers();
        promise23Seven();
    }

    private static void promise23ItsNumber() {
        AT.promise(23, "A TOWER: its number.");
        OneTime x = Filling.withTowns(0, 0);
        for (int i = 0; i < 7; i++) {
            AT.due("tower " + i, x.tower(i % 2, i, 100 * i), i);
            AT.due("count(5)", x.count(5), i + 1);
        }
        for (int i = 0; i < 7; i++) {
            AT.due("the drift of " + i, x.error(i, i + 1440), 100 * i);
        }
    }

    private static void promise23NoSuchNumbers() {
        AT.promise(23, "NONE: no such TOWN, MINUTE, DRIFT");
        AT.edges("tower(?, 0, 0)", Filling.SOME, 0, 2, NONE, (x, v) -> x.tower(v, 0, 0));
        AT.edges("tower(?, 575999, 600)", Filling.ALMOST, 0, 15, NONE, (x, v) -> x.tower(v, 575999, 600));
        AT.edges("tower(0, ?, 0)", Filling.SOME, 0, 575999, NONE, (x, v) -> x.tower(0, v, 0));
        AT.edges("tower(15, ?, -600)", Filling.ALMOST, 0, 575999, NONE, (x, v) -> x.tower(15, v, -600));
        AT.edges("tower(0, 0, ?)", Filling.SOME, -600, 600, NONE, (x, v) -> x.tower(0, 0, v));
        AT.edges("tower(15, 575999, ?)", Filling.ALMOST, -600, 600, NONE, (x, v) -> x.tower(15, 575999, v));
    }

    private static void promise23Seven() {
        AT.promise(23, "; 7.");
        AT.due("the 7th", Filling.ALMOST.make().tower(15, 575999, 600), 6);
        AT.refused("the 8th", Filling.FULL, NONE, x -> x.tower(0, 0, 0));
        AT.refused("the 8th, of the last town", Filling.FULL, NONE, x -> x.tower(15, 575999, 600));
    }

    // ---- promise 24: error

    private static void promise24() {
        promise24Seconds();
        promise24NoSuchNumbers();
        promise24AheadOfItsBeingSet();
    }

    private static void promise24Seconds() {
        AT.promise(24, "ERROR of a TOWER, seconds.");
        AT.due("the greatest", oneTower(0, 600).error(0, 575999), 239999);
        AT.due("the least", oneTower(0, -600).error(0, 575999), -239999);
        AT.due("none", oneTower(0, 0).error(0, 575999), 0);
        AT.alike("error", Filling.FULL, x -> x.error(6, 575999), x -> 0);
    }

    private static void promise24NoSuchNumbers() {
        AT.promise(24, "NoSuchElementException: no such TOWER, MINUTE");
        AT.edges("error(?, 5000)", Filling.SOME, 0, 1, NO_SUCH, (x, v) -> x.error(v, 5000));
        AT.edges("error(?, 5000)", Filling.FULL, 0, 6, NO_SUCH, (x, v) -> x.error(v, 5000));
        AT.edges("error(0, ?)", Filling.SOME, 0, 575999, NO_SUCH, (x, v) -> x.error(0, v));
        AT.edges("error(0, ?)", Filling.FULL, 0, 575999, NO_SUCH, (x, v) -> x.error(0, v));
    }

    private static void promise24AheadOfItsBeingSet() {
        AT.promise(24, ", or one ahead of its being SET.");
        // Tower 1 is set at 100, tower 6 at 600.
        AT.edges("error(1, ?)", Filling.SOME, 100, 575999, NO_SUCH, (x, v) -> x.error(1, v));
        AT.edges("error(6, ?)", Filling.FULL, 600, 575999, NO_SUCH, (x, v) -> x.error(6, v));
        AT.edges("error(0, ?), set at the last minute", () -> oneTower(575999, 600), 575999, 575999, NO_SUCH,
            (x, v) -> x.error(0, v));
        OneTime x = oneTower(0, 600);
        x.set(0, 5000);
        AT.due("ahead of its being set anew", Bounds.call(x, y -> y.error(0, 4999)), NO_SUCH);
        AT.due("as it is set anew", x.error(0, 5000), 0);
    }

    // ---- promise 25: set

    private static void promise25() {
        promise25ItsError();
        promise25AsError();
    }

    private static void promise25ItsError() {
        AT.promise(25, "A TOWER is SET right at a MINUTE: its ERROR till then.");
        OneTime x = oneTower(0, 600);
        x.tower(0, 0, -600);
        AT.due("at the same minute", x.set(0, 0), 0);
        AT.due("a minute later, cut", x.set(0, 1), 0);
        // From minute 1 on: 3 minutes are 1.25 seconds.
        AT.due("anew from then on", x.set(0, 4), 1);
        AT.due("at the last minute", x.set(0, 575999), 239997);
        AT.due("at the last minute again", x.set(0, 575999), 0);
        AT.due("right then", x.error(0, 575999), 0);
        AT.due("not the other one", x.error(1, 575999), -239999);
        AT.due("below 0", x.set(1, 1440), -600);
        AT.due("its drift stays", x.error(1, 2880), -600);
        AT.alike("at the minute it was set at", Filling.FULL, y -> y.set(6, 600), y -> 0);
    }

    private static void promise25AsError() {
        AT.promise(25, "NoSuchElementException as error().");
        AT.edges("set(?, 5000)", Filling.SOME, 0, 1, NO_SUCH, (x, v) -> x.set(v, 5000));
        AT.edges("set(?, 5000)", Filling.FULL, 0, 6, NO_SUCH, (x, v) -> x.set(v, 5000));
        AT.edges("set(0, ?)", Filling.SOME, 0, 575999, NO_SUCH, (x, v) -> x.set(0, v));
        AT.edges("set(1, ?)", Filling.SOME, 100, 575999, NO_SUCH, (x, v) -> x.set(1, v));
        AT.edges("set(6, ?)", Filling.FULL, 600, 575999, NO_SUCH, (x, v) -> x.set(6, v));
        OneTime x = oneTower(0, 600);
        x.set(0, 5000);
        AT.due("ahead of its being set anew", Bounds.call(x, y -> y.set(0, 4999)), NO_SUCH);
        AT.due("it is still set at 5000", x.error(0, 6440), 600);
    }

    // ---- promise 26: round

    private static void promise26() {
        promise26TheRow();
        promise26NoneSuch();
        promise26SetBehind();
        promise26EndsBehind();
        promise26NothingIsSet();
    }

    private static void promise26TheRow() {
        AT.promise(26, "THE BEST ROUND from a TOWN at a MINUTE: the ROW: its TOWERS in order, then the MINUTE at which it ends: "
            + "its greatest size of ERROR.");
        int[] ends = {30, 60, 90, 120, 150, 180, 210};
        OneTime x = Filling.withTowns(0);
        for (int towers = 1; towers <= 7; towers++) {
            x.tower(0, 0, 0);
            int[] row = new int[towers + 1];
            for (int i = 0; i < towers; i++) {
                row[i] = i;
            }
            row[towers] = ends[towers - 1];
            round(towers + " towers", x, 0, 0, row);
        }
        OneTime worst = oneTower(0, -600);
        round("the greatest of all", worst, 575969, 239987, 0, 575999);
        AT.due("a size, though the error is below 0", worst.error(0, 575969), -239987);
    }

    private static void promise26NoneSuch() {
        AT.promise(26, "NONE: none such, no TOWERS");
        AT.edges("round(?, 3000)", Filling.SOME, 0, 2, NONE, (x, v) -> x.round(v, 3000));
        AT.edges("round(?, 3000)", Filling.FULL, 0, 15, NONE, (x, v) -> x.round(v, 3000));
        AT.edges("round(0, ?)", () -> oneTower(0, 600), 0, 575969, NONE, (x, v) -> x.round(0, v));
        for (int minute : new int[] {-1, 576000, LEAST, GREATEST}) {
            AT.refused("round(0, " + minute + ")", Filling.FULL, NONE, x -> x.round(0, minute));
        }
        AT.refused("no towers", () -> Filling.withTowns(0), NONE, x -> x.round(0, 0));
        AT.refused("no towns", Filling.EMPTY, NONE, x -> x.round(0, 0));
    }

    private static void promise26SetBehind() {
        AT.promise(26, ", some TOWER SET behind that MINUTE");
        // The last tower of SOME is set at 100, that of FULL at 600.
        AT.refused("round(0, 99)", Filling.SOME, NONE, x -> x.round(0, 99));
        AT.due("round(0, 100)", Filling.SOME.make().round(0, 100) == NONE, false);
        AT.refused("round(0, 599)", Filling.FULL, NONE, x -> x.round(0, 599));
        AT.due("round(0, 600)", Filling.FULL.make().round(0, 600) == NONE, false);
        for (int behind = 0; behind < 7; behind++) {
            OneTime x = Filling.withTowns(0);
            for (int i = 0; i < 7; i++) {
                x.tower(0, 50, 0);
            }
            x.set(behind, 1000);
            AT.due("tower " + behind + " set behind it", x.round(0, 999), NONE);
            AT.due("tower " + behind + " set just then", x.round(0, 1000), 0);
        }
    }

    private static void promise26EndsBehind() {
        AT.promise(26, ", or it would end behind all MINUTES (that of the BEST).");
        round("at the last minute", oneTower(0, 0), 575969, 0, 0, 575999);
        AT.refused("behind it", () -> oneTower(0, 0), NONE, x -> x.round(0, 575970));
        AT.refused("from the last minute on", () -> oneTower(575999, 0), NONE, x -> x.round(0, 575999));
        AT.refused("seven", Filling.FULL, NONE, x -> x.round(0, 575900));
        Bounds.Maker fast = () -> {
            OneTime x = Filling.withTowns(0, 10, -30);
            x.tower(1, 575000, 1);
            x.tower(2, 575000, 600);
            return x;
        };
        round("the best at the last minute", fast.make(), 575239, 224, 1, 0, 575999);
        AT.refused("the best behind it, though another one is not", fast, NONE, x -> x.round(0, 575240));
        // Of equal errors the earliest end is the best, so it is in time where others are not.
        round("the earliest end just in time", oneOfEach(0, -30, 20), 575239, 0, 1, 0, 575999);
        AT.refused("the earliest end too late", () -> oneOfEach(0, -30, 20), NONE, x -> x.round(0, 575240));
        Bounds.Maker far = () -> {
            OneTime x = Filling.withTowns(-720, 720);
            for (int i = 0; i < 7; i++) {
                x.tower(i % 2, 0, 600);
            }
            return x;
        };
        AT.refused("far behind it", far, NONE, x -> x.round(0, 575999));
    }

    private static void promise26NothingIsSet() {
        AT.promise(26, "(Nothing is SET.)");
        // They told this row when they were made, so that all is as it was.
        for (Filling filling : new Filling[] {Filling.SOME, Filling.ALMOST, Filling.FULL}) {
            AT.alike("round(1, 3000) on " + filling, filling, x -> x.round(1, 3000), x -> 0);
        }
        OneTime x = oneTower(0, 600);
        x.round(0, 1440);
        AT.due("its error then", x.error(0, 1470), 612);
        AT.due("ahead of it too", x.error(0, 0), 0);
        AT.due("the same again", x.round(0, 1440), 600);
    }

    // ---- promise 27: row

    private static void promise27() {
        promise27NumberI();
        promise27NoneSuch();
    }

    private static void promise27NumberI() {
        AT.promise(27, "Number i of the ROW.");
        OneTime x = Filling.withTowns(0);
        for (int i = 0; i < 7; i++) {
            x.tower(0, 0, 0);
        }
        x.round(0, 0);
        for (int i = 0; i < 8; i++) {
            AT.due("row(" + i + ")", x.row(i), i < 7 ? i : 210);
            AT.due("row(" + i + ") again", x.row(i), i < 7 ? i : 210);
        }
        AT.alike("row", Filling.FULL, y -> y.row(7), y -> 0);
    }

    private static void promise27NoneSuch() {
        AT.promise(27, "NoSuchElementException: none such.");
        for (int i : new int[] {-1, 0, 1, LEAST, GREATEST}) {
            AT.refused("row(" + i + ")", Filling.EMPTY, NO_SUCH, x -> x.row(i));
        }
        AT.edges("row(?)", Filling.SOME, 0, 2, NO_SUCH, OneTime::row);
        AT.edges("row(?)", Filling.ALMOST, 0, 6, NO_SUCH, OneTime::row);
        AT.edges("row(?)", Filling.FULL, 0, 7, NO_SUCH, OneTime::row);
        Bounds.Maker one = () -> {
            OneTime x = Filling.FULL.make();
            x.close();
            x.when(5, 300000);
            return x;
        };
        AT.edges("row(?), one number behind eight", one, 0, 0, NO_SUCH, OneTime::row);
        OneTime x = Filling.FULL.make();
        x.when(5, GREATEST);
        AT.due("no number behind eight", Bounds.call(x, y -> y.row(0)), NO_SUCH);
    }
}
