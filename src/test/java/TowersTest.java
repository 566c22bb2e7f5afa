/** Promises 23 to 27: tower clocks, their errors, the best round, the row. */
public final class TowersTest {
    private static final Checks CHECKS = new Checks("TowersTest");

    public static void main(String[] args) {
        towers();
        errors();
        errorsWrongly();
        setting();
        rounds();
        roundByError();
        roundByEnd();
        roundByNumbers();
        roundOfSeven();
        roundEnds();
        roundsWrongly();
        CHECKS.finish();
    }

    private static OneTime withTowns(int... suns) {
        OneTime x = new OneTime();
        for (int sun : suns) {
            x.town(sun);
        }
        return x;
    }

    private static void towers() {
        OneTime x = withTowns(0);
        CHECKS.none("town 1", x.tower(1, 0, 0));
        CHECKS.none("town -1", x.tower(-1, 0, 0));
        CHECKS.none("minute -1", x.tower(0, -1, 0));
        CHECKS.none("minute 576000", x.tower(0, 576000, 0));
        CHECKS.none("drift -601", x.tower(0, 0, -601));
        CHECKS.none("drift 601", x.tower(0, 0, 601));
        CHECKS.due("none was built", x.count(5), 0);
        CHECKS.due("the least", x.tower(0, 0, -600), 0);
        CHECKS.due("the greatest", x.tower(0, 575999, 600), 1);
        for (int i = 2; i < 7; i++) {
            CHECKS.due("tower " + i, x.tower(0, 0, 0), i);
        }
        CHECKS.none("tower 7", x.tower(0, 0, 0));
        CHECKS.due("count(5)", x.count(5), 7);
    }

    private static void errors() {
        OneTime x = withTowns(0);
        x.tower(0, 1440, 600);
        x.tower(0, 1440, -600);
        x.tower(0, 0, 1);
        x.tower(0, 0, -1);
        int[] minutes = {1440, 1441, 1442, 1443, 1500, 2880, 575999};
        int[] sizes = {0, 0, 0, 1, 25, 600, 239399};
        for (int i = 0; i < minutes.length; i++) {
            CHECKS.due("600 at " + minutes[i], x.error(0, minutes[i]), sizes[i]);
            CHECKS.due("-600 at " + minutes[i], x.error(1, minutes[i]), -sizes[i]);
        }
        CHECKS.due("1 ahead of a day", x.error(2, 1439), 0);
        CHECKS.due("1 behind a day", x.error(2, 1440), 1);
        CHECKS.due("-1 ahead of a day", x.error(3, 1439), 0);
        CHECKS.due("-1 ahead of two days", x.error(3, 2879), -1);
        CHECKS.due("-1 behind two days", x.error(3, 2880), -2);
    }

    private static void errorsWrongly() {
        OneTime x = withTowns(0);
        x.tower(0, 100, 5);
        CHECKS.noSuch("tower -1", () -> x.error(-1, 100));
        CHECKS.noSuch("tower 1", () -> x.error(1, 100));
        CHECKS.noSuch("minute -1", () -> x.error(0, -1));
        CHECKS.noSuch("minute 576000", () -> x.error(0, 576000));
        CHECKS.noSuch("ahead of its being set", () -> x.error(0, 99));
        CHECKS.due("as it is set", x.error(0, 100), 0);
        CHECKS.noSuch("set tower -1", () -> x.set(-1, 100));
        CHECKS.noSuch("set tower 1", () -> x.set(1, 100));
        CHECKS.noSuch("set minute -1", () -> x.set(0, -1));
        CHECKS.noSuch("set minute 576000", () -> x.set(0, 576000));
        CHECKS.noSuch("set ahead of its being set", () -> x.set(0, 99));
        CHECKS.due("it is still set at 100", x.error(0, 100), 0);
    }

    private static void setting() {
        OneTime x = withTowns(0);
        x.tower(0, 0, -600);
        x.tower(0, 0, 100);
        CHECKS.due("its error till then", x.set(0, 1440), -600);
        CHECKS.due("then none", x.error(0, 1440), 0);
        CHECKS.due("and anew", x.error(0, 2880), -600);
        CHECKS.noSuch("ahead of it", () -> x.error(0, 1439));
        CHECKS.due("the other one", x.error(1, 1440), 100);
        CHECKS.due("set again at once", x.set(0, 1440), 0);
        CHECKS.due("set at the last minute", x.set(0, 575999), -239399);
        CHECKS.due("its error there", x.error(0, 575999), 0);
    }

    private static void rounds() {
        OneTime x = withTowns(50, 0, -50);
        x.tower(0, 0, 144);
        CHECKS.due("at its own town", x.round(0, 100), 10);
        CHECKS.row("at its own town", x, 0, 130);
        CHECKS.due("from another one", x.round(2, 100), 110);
        CHECKS.row("from another one", x, 0, 1130);
        CHECKS.due("nothing is set", x.error(0, 1440), 144);
        CHECKS.due("drift does not matter while it stays", x.round(2, 0), 100);
    }

    private static void roundByError() {
        // The far tower drifts fast: it comes first, though the end is later then.
        OneTime x = withTowns(0, 10, -30);
        x.tower(1, 0, 10);
        x.tower(2, 0, -600);
        CHECKS.due("the fast one first", x.round(0, 0), 125);
        CHECKS.row("the fast one first", x, 1, 0, 760);
        OneTime y = withTowns(0, 10, -30);
        y.tower(1, 0, 10);
        y.tower(2, 0, -10);
        CHECKS.due("slow ones", y.round(0, 0), 3);
        CHECKS.row("slow ones by the nearer end", y, 0, 1, 560);
    }

    private static void roundByEnd() {
        OneTime x = withTowns(0, 10, -30, 20);
        x.tower(2, 0, 0);
        x.tower(1, 0, 0);
        x.tower(3, 0, 0);
        CHECKS.due("no drift", x.round(0, 7), 0);
        CHECKS.row("the earliest end", x, 1, 2, 0, 7 + 200 + 500 + 90);
    }

    private static void roundByNumbers() {
        OneTime x = withTowns(0, 10, -10);
        x.tower(2, 0, 0);
        x.tower(1, 0, 0);
        CHECKS.due("both ways alike", x.round(0, 0), 0);
        CHECKS.row("the first one by numbers", x, 0, 1, 360);
        OneTime y = withTowns(0);
        for (int i = 0; i < 7; i++) {
            y.tower(0, 0, 0);
        }
        CHECKS.due("seven at one town", y.round(0, 0), 0);
        CHECKS.row("seven by numbers", y, 0, 1, 2, 3, 4, 5, 6, 210);
    }

    private static void roundOfSeven() {
        OneTime x = withTowns(0);
        for (int i = 0; i < 7; i++) {
            x.tower(0, 0, i * 48);
        }
        // Tower i at place k has an error of i times k seconds: 9 is the least of the greatest (3 at place 3).
        CHECKS.due("the faster the earlier", x.round(0, 0), 9);
        CHECKS.row("seven by their drifts", x, 5, 6, 4, 3, 2, 0, 1, 210);
    }

    private static void roundEnds() {
        OneTime x = withTowns(0, 1);
        x.tower(0, 0, 0);
        CHECKS.due("at the last minute", x.round(0, 575969), 0);
        CHECKS.row("at the last minute", x, 0, 575999);
        CHECKS.none("behind all minutes", x.round(0, 575970));
        CHECKS.row("NONE leaves the row", x, 0, 575999);
        CHECKS.none("the way there counts", x.round(1, 575969));
        CHECKS.due("but ten minutes ahead", x.round(1, 575959), 0);
        // The best round ends behind all minutes: NONE, though another one would end in time.
        OneTime y = withTowns(0, 10, -30);
        y.tower(1, 575000, 1);
        y.tower(2, 575000, 600);
        CHECKS.due("in time", y.round(0, 575239), 224);
        CHECKS.row("in time", y, 1, 0, 575999);
        CHECKS.none("the best one too late", y.round(0, 575240));
    }

    private static void roundsWrongly() {
        OneTime x = withTowns(0);
        CHECKS.none("no towers", x.round(0, 0));
        x.tower(0, 100, 0);
        x.tower(0, 200, 0);
        CHECKS.none("town 1", x.round(1, 200));
        CHECKS.none("town -1", x.round(-1, 200));
        CHECKS.none("minute -1", x.round(0, -1));
        CHECKS.none("minute 576000", x.round(0, 576000));
        CHECKS.none("one is set behind it", x.round(0, 199));
        CHECKS.row("no row", x);
        CHECKS.due("all are set", x.round(0, 200), 0);
        x.set(0, 300);
        CHECKS.none("set anew behind it", x.round(0, 299));
        CHECKS.row("NONE leaves the row", x, 0, 1, 260);
    }
}
