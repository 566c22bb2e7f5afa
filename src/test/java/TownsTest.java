/** Promises 1 to 10 and 27: a new object, towns, clocks, the row. */
public final class TownsTest {
    private static final Checks CHECKS = new Checks("TownsTest");

    public static void main(String[] args) {
        newObject();
        towns();
        clocks();
        clocksToTheLimit();
        untelling();
        counts();
        readings();
        readingsOfEachKind();
        whens();
        whensAtTheEdges();
        turning();
        unlikes();
        ones();
        rows();
        CHECKS.finish();
    }

    private static void newObject() {
        OneTime x = new OneTime();
        CHECKS.due("NONE", OneTime.NONE, -1);
        for (int what = 0; what <= 7; what++) {
            CHECKS.due("new: count(" + what + ")", x.count(what), 0);
        }
        CHECKS.noSuch("new: read(0, 0)", () -> x.read(0, 0));
        CHECKS.none("new: when", x.when(0, 0));
        CHECKS.noSuch("new: turned", () -> x.turned(0, 0, 0));
        CHECKS.none("new: unlike", x.unlike(0, 0));
        CHECKS.none("new: station", x.station(0, 1));
        CHECKS.none("new: leaves", x.leaves(0, 0));
        CHECKS.due("new: meet", x.meet(), 0);
        CHECKS.due("new: free", x.free(), 0);
        CHECKS.due("new: close", x.close(), 0);
        CHECKS.noSuch("new: judged", () -> x.judged(0, 0, 0));
        CHECKS.noSuch("new: error", () -> x.error(0, 0));
        CHECKS.noSuch("new: set", () -> x.set(0, 0));
        CHECKS.none("new: round", x.round(0, 0));
        CHECKS.row("new", x);
        OneTime other = new OneTime();
        other.town(5);
        CHECKS.due("another object's town", x.count(0), 0);
    }

    private static void towns() {
        OneTime x = new OneTime();
        int[] wrong = {-721, 721, Integer.MIN_VALUE, Integer.MAX_VALUE};
        for (int sun : wrong) {
            CHECKS.none("town(" + sun + ")", x.town(sun));
        }
        CHECKS.due("no town was made", x.count(0), 0);
        CHECKS.due("town(-720)", x.town(-720), 0);
        CHECKS.due("town(720)", x.town(720), 1);
        for (int i = 2; i < 16; i++) {
            CHECKS.due("town " + i, x.town(7), i);
        }
        CHECKS.none("town 16", x.town(7));
        CHECKS.due("count(0)", x.count(0), 16);
        CHECKS.due("read(0)", x.read(0, 1000), 280);
        CHECKS.due("read(1)", x.read(1, 1000), 1720);
        CHECKS.due("read(15)", x.read(15, 1000), 1007);
        CHECKS.noSuch("read(16)", () -> x.read(16, 1000));
    }

    private static void clocks() {
        OneTime x = new OneTime();
        x.town(10);
        x.town(20);
        CHECKS.none("no such town", x.clock(2, 0, 0, 0));
        CHECKS.none("town -1", x.clock(-1, 0, 0, 0));
        CHECKS.none("day -1", x.clock(0, -1, 0, 0));
        CHECKS.none("day 400", x.clock(0, 400, 0, 0));
        CHECKS.none("kind -1", x.clock(0, 0, -1, 0));
        CHECKS.none("kind 3", x.clock(0, 0, 3, 0));
        CHECKS.none("zone -13", x.clock(0, 0, 1, -13));
        CHECKS.none("zone 13", x.clock(0, 0, 1, 13));
        CHECKS.none("rail of itself", x.clock(0, 0, 2, 0));
        CHECKS.none("rail of itself, 1", x.clock(1, 0, 2, 1));
        CHECKS.none("rail of town -1", x.clock(0, 0, 2, -1));
        CHECKS.none("rail of town 2", x.clock(0, 0, 2, 2));
        CHECKS.due("none was told", x.count(1), 0);
        CHECKS.due("the sun whatever arg", x.clock(0, 0, 0, Integer.MAX_VALUE), 1);
        CHECKS.due("zone -12", x.clock(0, 399, 1, -12), 2);
        CHECKS.due("zone 12", x.clock(1, 0, 1, 12), 3);
        CHECKS.due("rail", x.clock(0, 7, 2, 1), 4);
    }

    private static void clocksToTheLimit() {
        OneTime x = new OneTime();
        x.town(0);
        for (int i = 0; i < 60; i++) {
            CHECKS.due("clock " + i, x.clock(0, i * 6, 1, i % 25 - 12), i + 1);
        }
        CHECKS.none("clock 61", x.clock(0, 0, 0, 0));
        CHECKS.due("count(1)", x.count(1), 60);
        for (int i = 0; i < 60; i++) {
            int shift = 60 * (i % 25 - 12);
            int minute = i * 6 * 1440;
            CHECKS.due("first minute of clock " + i, x.read(0, minute), minute + shift);
            CHECKS.due("a later day of clock " + i, x.read(0, minute + 8639), minute + 8639 + shift);
        }
        CHECKS.due("untell", x.untell(), 59);
        CHECKS.due("there is room again", x.clock(0, 399, 0, 0), 60);
    }

    private static void untelling() {
        OneTime x = new OneTime();
        CHECKS.none("untell of none", x.untell());
        x.town(0);
        x.town(0);
        x.clock(0, 5, 1, 3);
        x.clock(1, 2, 1, 1);
        x.clock(0, 3, 1, 2);
        CHECKS.due("untell the latest told, not the latest day", x.untell(), 2);
        CHECKS.due("day 3", x.read(0, 3 * 1440), 3 * 1440);
        CHECKS.due("day 5", x.read(0, 5 * 1440), 5 * 1440 + 180);
        CHECKS.due("told again", x.clock(0, 5, 1, 4), 3);
        CHECKS.due("the one told last", x.read(0, 5 * 1440), 5 * 1440 + 240);
        CHECKS.due("untell it", x.untell(), 2);
        CHECKS.due("the one ahead of it holds again", x.read(0, 5 * 1440), 5 * 1440 + 180);
        CHECKS.due("untell, of another town", x.untell(), 1);
        CHECKS.due("that town", x.read(1, 2 * 1440), 2 * 1440);
        CHECKS.due("untell", x.untell(), 0);
        CHECKS.none("untell of none", x.untell());
        CHECKS.due("count(1)", x.count(1), 0);
    }

    private static void counts() {
        OneTime x = new OneTime();
        x.town(0);
        x.town(1);
        x.town(2);
        x.clock(0, 0, 1, 0);
        x.clock(0, 0, 1, 0);
        for (int i = 0; i < 4; i++) {
            x.station(0, 1);
        }
        for (int i = 0; i < 5; i++) {
            x.train(true, i, 0, 0);
        }
        Checks.law(x, "a=l", 0, 0);
        for (int i = 0; i < 6; i++) {
            x.tower(0, 0, 0);
        }
        x.sign(0);
        x.sign(0);
        x.when(0, 100);
        int[] want = {3, 2, 4, 5, 1, 6, 1, 8};
        for (int what = 0; what < want.length; what++) {
            CHECKS.due("count(" + what + ")", x.count(what), want[what]);
        }
        int[] wrong = {-1, 8, Integer.MIN_VALUE, Integer.MAX_VALUE};
        for (int what : wrong) {
            CHECKS.none("count(" + what + ")", x.count(what));
        }
    }

    private static void readings() {
        OneTime x = new OneTime();
        x.town(-720);
        x.town(720);
        CHECKS.due("below 0", x.read(0, 0), -720);
        CHECKS.due("above all", x.read(1, 575999), 576719);
        CHECKS.noSuch("town -1", () -> x.read(-1, 0));
        CHECKS.noSuch("town 2", () -> x.read(2, 0));
        CHECKS.noSuch("minute -1", () -> x.read(0, -1));
        CHECKS.noSuch("minute 576000", () -> x.read(0, 576000));
        CHECKS.noSuch("the greatest minute", () -> x.read(0, Integer.MAX_VALUE));
        CHECKS.noSuch("the least minute", () -> x.read(0, Integer.MIN_VALUE));
    }

    private static void readingsOfEachKind() {
        OneTime x = new OneTime();
        x.town(11);
        x.town(-33);
        x.clock(1, 0, 1, 9);
        x.clock(0, 2, 1, -12);
        x.clock(0, 4, 2, 1);
        x.clock(0, 6, 0, 99);
        x.clock(0, 6, 1, 1);
        x.clock(0, 8, 1, 2);
        x.clock(0, 8, 0, 0);
        int[] shifts = {11, 11, -720, -720, -33, -33, 60, 60, 11, 11};
        for (int day = 0; day < shifts.length; day++) {
            int first = day * 1440;
            CHECKS.due("day " + day, x.read(0, first), first + shifts[day]);
            CHECKS.due("end of day " + day, x.read(0, first + 1439), first + 1439 + shifts[day]);
        }
        CHECKS.due("the last day", x.read(0, 575999), 576010);
        x.clock(0, 399, 1, 12);
        CHECKS.due("ahead of the last day", x.read(0, 574559), 574570);
        CHECKS.due("on the last day", x.read(0, 574560), 575280);
        // A rail goes by the other town's sun, whatever clock that town goes by.
        CHECKS.due("the rail's town itself", x.read(1, 5760), 5760 + 540);
    }

    private static void whens() {
        OneTime x = new OneTime();
        x.town(100);
        CHECKS.none("no such town", x.when(1, 0));
        CHECKS.none("town -1", x.when(-1, 0));
        CHECKS.due("once", x.when(0, 1540), 1);
        CHECKS.row("once", x, 1440);
        CHECKS.none("NONE leaves the row", x.when(1, 0));
        CHECKS.row("after NONE", x, 1440);
        x.clock(0, 3, 1, 0);
        CHECKS.due("set back: twice", x.when(0, 4320), 2);
        CHECKS.row("set back", x, 4220, 4320);
        CHECKS.due("the last reading shown twice", x.when(0, 4419), 2);
        CHECKS.row("the last one", x, 4319, 4419);
        CHECKS.due("behind it", x.when(0, 4420), 1);
        CHECKS.row("behind it", x, 4420);
        CHECKS.due("ahead of both", x.when(0, 4319), 1);
        CHECKS.row("ahead of both", x, 4219);
        x.clock(0, 10, 1, 1);
        CHECKS.due("set on: left out", x.when(0, 14400), 0);
        CHECKS.row("left out", x);
        CHECKS.due("the last one ahead", x.when(0, 14399), 1);
        CHECKS.row("the last one ahead", x, 14399);
        CHECKS.due("the last one left out", x.when(0, 14459), 0);
        CHECKS.due("the first one behind", x.when(0, 14460), 1);
        CHECKS.row("the first one behind", x, 14400);
    }

    private static void whensAtTheEdges() {
        OneTime x = new OneTime();
        x.town(-720);
        x.town(720);
        CHECKS.due("the first reading", x.when(0, -720), 1);
        CHECKS.row("the first reading", x, 0);
        CHECKS.due("ahead of the first", x.when(0, -721), 0);
        CHECKS.due("the last reading", x.when(0, 575279), 1);
        CHECKS.row("the last reading", x, 575999);
        CHECKS.due("behind the last", x.when(0, 575280), 0);
        CHECKS.due("the first, 720 on", x.when(1, 720), 1);
        CHECKS.row("the first, 720 on", x, 0);
        CHECKS.due("ahead of it", x.when(1, 719), 0);
        CHECKS.due("the last, 720 on", x.when(1, 576719), 1);
        CHECKS.row("the last, 720 on", x, 575999);
        CHECKS.due("behind it", x.when(1, 576720), 0);
        CHECKS.due("the least number", x.when(0, Integer.MIN_VALUE), 0);
        CHECKS.due("the greatest number", x.when(1, Integer.MAX_VALUE), 0);
        // From 720 on to 720 back all readings of a day come twice.
        x.clock(1, 1, 1, -12);
        CHECKS.due("first twice", x.when(1, 720), 2);
        CHECKS.row("first twice", x, 0, 1440);
        CHECKS.due("last twice", x.when(1, 2159), 2);
        CHECKS.row("last twice", x, 1439, 2879);
        x.clock(0, 1, 1, 12);
        CHECKS.due("from 720 back to 720 on", x.when(0, 719), 1);
        CHECKS.row("from 720 back to 720 on", x, 1439);
        CHECKS.due("left out", x.when(0, 720), 0);
        CHECKS.due("all left out", x.when(0, 2159), 0);
        CHECKS.due("there again", x.when(0, 2160), 1);
        CHECKS.row("there again", x, 1440);
    }

    private static void turning() {
        OneTime x = new OneTime();
        x.town(0);
        x.town(100);
        CHECKS.due("turned", x.turned(0, 50, 1), 150);
        CHECKS.due("the other way", x.turned(1, 150, 0), 50);
        CHECKS.due("itself", x.turned(1, 150, 1), 150);
        CHECKS.noSuch("ahead of all", () -> x.turned(1, 99, 0));
        CHECKS.noSuch("behind all", () -> x.turned(0, 576000, 1));
        CHECKS.due("the last", x.turned(0, 575999, 1), 576099);
        CHECKS.noSuch("town -1", () -> x.turned(-1, 0, 0));
        CHECKS.noSuch("town 2", () -> x.turned(2, 0, 0));
        CHECKS.noSuch("to town -1", () -> x.turned(0, 0, -1));
        CHECKS.noSuch("to town 2", () -> x.turned(0, 0, 2));
        CHECKS.noSuch("the greatest number", () -> x.turned(0, Integer.MAX_VALUE, 1));
        CHECKS.noSuch("the least number", () -> x.turned(0, Integer.MIN_VALUE, 1));
        x.clock(1, 2, 1, 0);
        // 2900 is shown at 2800 and at 2900: the first counts.
        CHECKS.due("the first of two", x.turned(1, 2900, 0), 2800);
        x.clock(0, 5, 1, 1);
        CHECKS.noSuch("left out", () -> x.turned(0, 7200, 1));
        x.when(0, 0);
        x.turned(0, 50, 1);
        CHECKS.row("turned leaves the row", x, 0);
    }

    private static void unlikes() {
        OneTime x = new OneTime();
        x.town(60);
        x.town(60);
        x.town(61);
        CHECKS.due("alike suns", x.unlike(0, 1), 0);
        CHECKS.due("unlike suns", x.unlike(0, 2), 400);
        CHECKS.due("itself", x.unlike(2, 2), 0);
        CHECKS.none("town 3", x.unlike(0, 3));
        CHECKS.none("of town 3", x.unlike(3, 0));
        CHECKS.none("town -1", x.unlike(-1, 0));
        CHECKS.none("to town -1", x.unlike(0, -1));
        x.clock(0, 100, 1, 1);
        CHECKS.due("another kind that shows the same", x.unlike(0, 1), 0);
        x.clock(0, 200, 1, 2);
        CHECKS.due("half of the days", x.unlike(0, 1), 200);
        CHECKS.due("the other way", x.unlike(1, 0), 200);
        x.clock(1, 399, 1, 2);
        CHECKS.due("the last day alike", x.unlike(0, 1), 199);
        x.clock(1, 0, 2, 2);
        CHECKS.due("the first 399 days", x.unlike(0, 1), 399);
        CHECKS.due("all days but one", x.unlike(2, 1), 1);
    }

    private static void ones() {
        OneTime x = new OneTime();
        CHECKS.due("no town", x.one(0), 0);
        CHECKS.due("no town, the last day", x.one(399), 399);
        CHECKS.none("no town, day 400", x.one(400));
        CHECKS.none("no town, day -1", x.one(-1));
        x.town(5);
        x.clock(0, 8, 1, 3);
        CHECKS.due("one town", x.one(7), 7);
        x.town(5);
        CHECKS.due("two towns", x.one(0), 0);
        CHECKS.due("the last day that is one", x.one(7), 7);
        CHECKS.none("from day 8 on none", x.one(8));
        x.clock(1, 399, 1, 3);
        CHECKS.due("from day 8 on the last", x.one(8), 399);
        x.town(180);
        CHECKS.none("no first days any more", x.one(400));
        CHECKS.due("all three on the last", x.one(0), 399);
        x.clock(2, 3, 2, 0);
        CHECKS.due("all three on day 3", x.one(0), 3);
        CHECKS.due("and on day 7", x.one(7), 7);
        CHECKS.none("and never again", x.one(8));
    }

    private static void rows() {
        OneTime x = new OneTime();
        x.town(0);
        CHECKS.noSuch("row(0) of none", () -> x.row(0));
        x.when(0, 7);
        CHECKS.due("row(0)", x.row(0), 7);
        CHECKS.noSuch("row(-1)", () -> x.row(-1));
        CHECKS.noSuch("row(1)", () -> x.row(1));
        CHECKS.noSuch("row of the greatest", () -> x.row(Integer.MAX_VALUE));
        CHECKS.noSuch("row of the least", () -> x.row(Integer.MIN_VALUE));
        CHECKS.due("row(0) again", x.row(0), 7);
    }
}
