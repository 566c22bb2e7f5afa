/** Promises 11 to 17: stations, trains, where they meet, the best delays. */
public final class TrainsTest {
    private static final Checks CHECKS = new Checks("TrainsTest");

    public static void main(String[] args) {
        stations();
        trains();
        startsByClocks();
        startsStay();
        leaving();
        leavingOverSixStations();
        delays();
        meeting();
        meetingFirst();
        meetingSameWay();
        freeing();
        freeingByTheLeast();
        freeingNot();
        freeingSix();
        closing();
        CHECKS.finish();
    }

    private static OneTime line(int... runs) {
        OneTime x = new OneTime();
        x.town(0);
        x.station(0, 0);
        for (int run : runs) {
            x.station(0, run);
        }
        return x;
    }

    private static void stations() {
        OneTime x = new OneTime();
        x.town(0);
        CHECKS.none("town 1", x.station(1, 5));
        CHECKS.none("town -1", x.station(-1, 5));
        CHECKS.due("the first, whatever run", x.station(0, Integer.MIN_VALUE), 0);
        CHECKS.none("run 0", x.station(0, 0));
        CHECKS.none("run -1", x.station(0, -1));
        CHECKS.none("run 601", x.station(0, 601));
        CHECKS.due("run 1", x.station(0, 1), 1);
        CHECKS.due("run 600", x.station(0, 600), 2);
        CHECKS.due("station 3", x.station(0, 5), 3);
        CHECKS.due("station 4", x.station(0, 5), 4);
        CHECKS.due("station 5", x.station(0, 5), 5);
        CHECKS.none("station 6", x.station(0, 5));
        CHECKS.due("count(2)", x.count(2), 6);
        OneTime y = line(5);
        y.train(true, 0, 0, 0);
        CHECKS.none("there are trains", y.station(0, 5));
        CHECKS.due("count(2) with trains", y.count(2), 2);
    }

    private static void trains() {
        OneTime none = new OneTime();
        CHECKS.none("no stations", none.train(true, 0, 0, 0));
        none.town(0);
        none.station(0, 0);
        CHECKS.none("one station", none.train(true, 0, 0, 0));
        CHECKS.none("one station, down", none.train(false, 0, 0, 0));
        OneTime x = line(10);
        CHECKS.none("day -1", x.train(true, -1, 0, 0));
        CHECKS.none("day 400", x.train(true, 400, 0, 0));
        CHECKS.none("time -1", x.train(true, 1, -1, 0));
        CHECKS.none("time 1440", x.train(true, 0, 1440, 0));
        CHECKS.none("stay -1", x.train(true, 0, 0, -1));
        CHECKS.none("stay 61", x.train(true, 0, 0, 61));
        CHECKS.none("the greatest day", x.train(true, Integer.MAX_VALUE, 0, 0));
        CHECKS.due("count(3)", x.count(3), 0);
        CHECKS.due("the first minute", x.train(true, 0, 0, 0), 0);
        CHECKS.due("the last minute", x.train(false, 399, 1439, 60), 1);
        CHECKS.due("leaves(0, 0)", x.leaves(0, 0), 0);
        CHECKS.due("leaves(1, 1)", x.leaves(1, 1), 575999);
        // What comes behind all minutes is still told by its number.
        CHECKS.due("leaves(1, 0)", x.leaves(1, 0), 576009);
        for (int i = 2; i < 6; i++) {
            CHECKS.due("train " + i, x.train(true, i, 0, 0), i);
        }
        CHECKS.none("train 6", x.train(true, 9, 0, 0));
        CHECKS.due("count(3) of six", x.count(3), 6);
    }

    private static void startsByClocks() {
        OneTime x = new OneTime();
        x.town(-60);
        x.town(90);
        x.station(0, 0);
        x.station(1, 20);
        CHECKS.due("up, by the first station's clock", x.train(true, 0, 100, 0), 0);
        CHECKS.due("up leaves", x.leaves(0, 0), 160);
        CHECKS.due("down, by the last station's clock", x.train(false, 0, 100, 0), 1);
        CHECKS.due("down leaves", x.leaves(1, 1), 10);
        CHECKS.none("down, ahead of all minutes", x.train(false, 0, 89, 0));
        CHECKS.due("down, the first minute", x.train(false, 0, 90, 0), 2);
        CHECKS.none("up, behind all minutes", x.train(true, 399, 1380, 0));
        CHECKS.due("up, the last minute", x.train(true, 399, 1379, 0), 3);
        CHECKS.due("it leaves", x.leaves(3, 0), 575999);
        x.clock(0, 5, 1, 0);
        CHECKS.none("the first time left out", x.train(true, 4, 1380, 0));
        CHECKS.none("the last time left out", x.train(true, 4, 1439, 0));
        x.clock(1, 5, 1, 0);
        CHECKS.due("a time shown twice", x.train(false, 5, 30, 0), 4);
        CHECKS.due("its first minute", x.leaves(4, 1), 7140);
    }

    private static void startsStay() {
        OneTime x = line(10);
        x.train(true, 3, 0, 0);
        x.clock(0, 0, 1, 5);
        CHECKS.due("a clock told later", x.leaves(0, 0), 4320);
        x.train(true, 3, 0, 0);
        CHECKS.due("a train told behind it", x.leaves(1, 0), 4020);
        x.untell();
        CHECKS.due("a clock untold", x.leaves(1, 0), 4020);
    }

    private static void leaving() {
        OneTime x = line(100, 50);
        x.train(true, 0, 7, 10);
        x.train(false, 0, 7, 3);
        int[] up = {7, 117, 167};
        int[] down = {160, 60, 7};
        for (int station = 0; station < 3; station++) {
            CHECKS.due("up leaves " + station, x.leaves(0, station), up[station]);
            CHECKS.due("down leaves " + station, x.leaves(1, station), down[station]);
        }
        CHECKS.none("train -1", x.leaves(-1, 0));
        CHECKS.none("train 2", x.leaves(2, 0));
        CHECKS.none("station -1", x.leaves(0, -1));
        CHECKS.none("station 3", x.leaves(0, 3));
        CHECKS.none("the greatest", x.leaves(Integer.MAX_VALUE, Integer.MAX_VALUE));
        CHECKS.none("the least", x.leaves(Integer.MIN_VALUE, Integer.MIN_VALUE));
    }

    private static void leavingOverSixStations() {
        OneTime x = line(1, 20, 300, 600, 5);
        x.train(true, 0, 0, 60);
        x.train(false, 0, 0, 60);
        int[] up = {0, 61, 141, 501, 1161, 1166};
        int[] down = {1166, 1165, 1085, 725, 65, 0};
        for (int station = 0; station < 6; station++) {
            CHECKS.due("six: up leaves " + station, x.leaves(0, station), up[station]);
            CHECKS.due("six: down leaves " + station, x.leaves(1, station), down[station]);
        }
        x.delay(0, 30);
        for (int station = 0; station < 6; station++) {
            CHECKS.due("six: late up leaves " + station, x.leaves(0, station), up[station] + 30);
            CHECKS.due("six: down still leaves " + station, x.leaves(1, station), down[station]);
        }
    }

    private static void delays() {
        OneTime x = line(10);
        CHECKS.due("no train", x.delay(0, 0), false);
        x.train(true, 0, 100, 0);
        x.train(true, 0, 100, 0);
        CHECKS.due("at first 0", x.leaves(0, 0), 100);
        CHECKS.due("v -1", x.delay(0, -1), false);
        CHECKS.due("v 31", x.delay(0, 31), false);
        CHECKS.due("train -1", x.delay(-1, 0), false);
        CHECKS.due("train 2", x.delay(2, 0), false);
        CHECKS.due("nothing changed", x.leaves(0, 0), 100);
        CHECKS.due("v 30", x.delay(0, 30), true);
        CHECKS.due("by 30", x.leaves(0, 0), 130);
        CHECKS.due("v 7", x.delay(0, 7), true);
        CHECKS.due("becomes, not more", x.leaves(0, 1), 117);
        CHECKS.due("the other one", x.leaves(1, 1), 110);
        CHECKS.due("v 0", x.delay(0, 0), true);
        CHECKS.due("by 0", x.leaves(0, 0), 100);
        x.delay(1, 9);
        x.close();
        x.station(0, 0);
        x.station(0, 10);
        x.train(true, 0, 100, 0);
        x.train(true, 0, 100, 0);
        CHECKS.due("a new train's delay", x.leaves(1, 0), 100);
    }

    private static void meeting() {
        OneTime x = line(10);
        CHECKS.due("no trains", x.meet(), 0);
        x.train(true, 0, 100, 0);
        CHECKS.due("one train", x.meet(), 0);
        CHECKS.row("one train", x);
        x.train(false, 0, 110, 0);
        CHECKS.due("one comes as the other leaves", x.meet(), 0);
        x.delay(0, 1);
        CHECKS.due("a minute together", x.meet(), 1);
        CHECKS.row("a minute together", x, 0, 1, 0);
        x.delay(0, 0);
        CHECKS.due("no more", x.meet(), 0);
        CHECKS.row("0 leaves the row", x, 0, 1, 0);
        x.delay(0, 19);
        CHECKS.due("still, from behind", x.meet(), 1);
        x.delay(0, 20);
        CHECKS.due("as the other comes", x.meet(), 0);
        OneTime y = line(1);
        y.train(true, 0, 0, 0);
        y.train(false, 0, 0, 0);
        CHECKS.due("on a run of one minute", y.meet(), 1);
        y.delay(0, 1);
        CHECKS.due("no more there", y.meet(), 0);
    }

    private static void meetingFirst() {
        OneTime x = line(10, 10, 10);
        // 0 and 3 meet on run 2, 1 and 2 on run 0: the less number's first counts ahead of the run.
        x.train(true, 0, 0, 0);
        x.train(true, 1, 0, 0);
        x.train(true, 1, 5, 0);
        x.train(false, 0, 15, 0);
        CHECKS.due("meet", x.meet(), 1);
        CHECKS.row("the least first train", x, 0, 3, 2);
        x.train(true, 0, 3, 0);
        CHECKS.due("meet again", x.meet(), 1);
        CHECKS.row("then the other's", x, 0, 3, 2);
        x.close();
        x.station(0, 0);
        x.station(0, 10);
        x.station(0, 10);
        x.train(true, 0, 0, 30);
        x.train(true, 0, 5, 0);
        x.train(false, 0, 0, 60);
        CHECKS.due("on several runs", x.meet(), 1);
        CHECKS.row("the first run", x, 0, 1, 0);
        x.delay(1, 30);
        // 0 is on run 0 at 0 .. 9, on run 1 at 40 .. 49; 1 at 35 .. 44, 45 .. 54.
        CHECKS.due("on the last run alone", x.meet(), 1);
        CHECKS.row("the last run", x, 0, 1, 1);
    }

    private static void meetingSameWay() {
        OneTime x = line(100, 10);
        x.train(false, 0, 0, 0);
        x.train(false, 0, 20, 0);
        CHECKS.due("both down", x.meet(), 1);
        CHECKS.row("on the long run, not on the short one", x, 0, 1, 0);
        x.close();
        x.station(0, 0);
        x.station(0, 10);
        x.train(true, 0, 0, 0);
        x.train(true, 0, 10, 0);
        CHECKS.due("one behind the other", x.meet(), 0);
    }

    private static void freeing() {
        OneTime x = line(10);
        CHECKS.due("no trains", x.free(), 0);
        x.train(true, 0, 0, 0);
        x.delay(0, 13);
        CHECKS.due("one train", x.free(), 0);
        CHECKS.due("its delay is 0 then", x.leaves(0, 0), 0);
        x.train(true, 0, 5, 0);
        x.train(false, 0, 8, 0);
        x.meet();
        CHECKS.due("two moved", x.free(), 2);
        CHECKS.due("train 0", x.leaves(0, 0), 0);
        CHECKS.due("train 1", x.leaves(1, 0), 10);
        CHECKS.due("train 2", x.leaves(2, 1), 23);
        CHECKS.due("then none meet", x.meet(), 0);
        CHECKS.row("free leaves the row", x, 0, 1, 0);
    }

    private static void freeingByTheLeast() {
        // Either one can be moved: by 10 the first (behind the other), by 15 the other.
        OneTime x = line(10);
        x.train(true, 0, 5, 0);
        x.train(true, 0, 0, 0);
        CHECKS.due("one moved", x.free(), 1);
        CHECKS.due("the least sum: the first", x.leaves(0, 0), 10);
        CHECKS.due("not the other", x.leaves(1, 0), 0);
        // Alike trains: the first one keeps the less delay.
        OneTime y = line(10);
        y.train(true, 0, 0, 0);
        y.train(true, 0, 0, 0);
        CHECKS.due("alike: one moved", y.free(), 1);
        CHECKS.due("alike: the first stays", y.leaves(0, 0), 0);
        CHECKS.due("alike: the other moves", y.leaves(1, 0), 10);
        // One moved by 30 goes ahead of two moved by less.
        OneTime z = line(10);
        z.train(true, 0, 0, 0);
        z.train(true, 0, 0, 0);
        z.train(true, 0, 10, 0);
        z.train(true, 0, 20, 0);
        CHECKS.due("one moved by much", z.free(), 1);
        int[] starts = {0, 30, 10, 20};
        for (int train = 0; train < 4; train++) {
            CHECKS.due("moved by much: " + train, z.leaves(train, 0), starts[train]);
        }
    }

    private static void freeingNot() {
        OneTime x = line(31);
        x.train(true, 0, 0, 0);
        x.train(true, 0, 0, 0);
        x.delay(0, 3);
        x.delay(1, 4);
        CHECKS.none("30 is not enough for 31", x.free());
        CHECKS.due("nothing changed, 0", x.leaves(0, 0), 3);
        CHECKS.due("nothing changed, 1", x.leaves(1, 0), 4);
        OneTime y = line(30);
        y.train(true, 0, 0, 0);
        y.train(true, 0, 0, 0);
        CHECKS.due("30 is enough for 30", y.free(), 1);
        CHECKS.due("by 30", y.leaves(1, 0), 30);
        OneTime z = line(7);
        z.train(true, 0, 0, 0);
        z.train(true, 0, 0, 0);
        CHECKS.due("steps of five", z.free(), 1);
        CHECKS.due("by 10, not by 7", z.leaves(1, 0), 10);
    }

    private static void freeingSix() {
        OneTime x = line(5);
        for (int i = 0; i < 6; i++) {
            x.train(i % 2 == 0, 0, 0, 0);
        }
        CHECKS.due("six at once", x.free(), 5);
        for (int i = 0; i < 6; i++) {
            CHECKS.due("six at once: " + i, x.leaves(i, i % 2), 5 * i);
        }
        OneTime y = line(6);
        for (int i = 0; i < 6; i++) {
            y.train(true, 0, 0, 0);
        }
        CHECKS.none("six do not fit", y.free());
        CHECKS.due("and stay", y.leaves(5, 0), 0);
    }

    private static void closing() {
        OneTime x = line(10, 10);
        CHECKS.due("no trains", x.close(), 0);
        CHECKS.due("no stations", x.count(2), 0);
        x.station(0, 0);
        x.station(0, 4);
        x.train(true, 0, 0, 0);
        x.train(false, 0, 0, 0);
        x.meet();
        CHECKS.due("two trains", x.close(), 2);
        CHECKS.due("no stations then", x.count(2), 0);
        CHECKS.due("no trains then", x.count(3), 0);
        CHECKS.none("leaves", x.leaves(0, 0));
        CHECKS.due("delay", x.delay(0, 1), false);
        CHECKS.due("meet", x.meet(), 0);
        CHECKS.row("the row stays", x, 0, 1, 0);
        CHECKS.due("towns stay", x.count(0), 1);
        CHECKS.none("no line for trains", x.train(true, 0, 0, 0));
        CHECKS.due("again the first, whatever run", x.station(0, 9999), 0);
        x.station(0, 9);
        x.train(true, 0, 0, 0);
        CHECKS.due("the new line's runs", x.leaves(0, 1), 9);
    }
}
