import java.util.function.Supplier;

/** All that can be seen of an object through its calls: each look is on an object made anew, for most change it. */
final class Seen {
    private static final int[] MINUTES = {0, 1439, 1440, 7200, 53280, 72000, 73440, 106560, 288000, 400000, 574560, 575999};

    private final StringBuilder text = new StringBuilder();
    private final OneTime x;

    private Seen(OneTime x) {
        this.x = x;
    }

    static String all(Supplier<OneTime> made) {
        StringBuilder all = new StringBuilder();
        for (int look = 0; look < 10; look++) {
            Seen seen = new Seen(made.get());
            seen.look(look);
            all.append(look).append(':').append(seen.text).append('\n');
        }
        return all.toString();
    }

    private void look(int look) {
        switch (look) {
            case 0 -> countsAndRow();
            case 1 -> readings();
            case 2 -> clocksTakenBack();
            case 3 -> line();
            case 4 -> best();
            case 5 -> tape();
            case 6 -> judgements();
            case 7 -> errors();
            case 8 -> rounds();
            default -> room();
        }
    }

    private long tell(Bounds.Act act) {
        long answer = Bounds.call(x, act);
        text.append(' ').append(answer == Bounds.NO_SUCH ? "no" : "" + answer);
        return answer;
    }

    private void row() {
        for (int i = 0; i <= 8; i++) {
            int place = i;
            tell(o -> o.row(place));
        }
    }

    private void countsAndRow() {
        for (int i = 0; i <= 7; i++) {
            int what = i;
            tell(o -> o.count(what));
        }
        row();
    }

    private void readings() {
        int towns = x.count(0);
        for (int i = 0; i < towns; i++) {
            for (int minute : MINUTES) {
                int town = i;
                tell(o -> o.read(town, minute));
            }
        }
        for (int i = 0; i < towns; i++) {
            int town = i;
            tell(o -> o.unlike(0, town));
        }
    }

    private void clocksTakenBack() {
        for (int i = 0; i <= 60; i++) {
            tell(OneTime::untell);
            tell(o -> o.unlike(0, 1));
            tell(o -> o.unlike(1, 2));
        }
    }

    private void leaving() {
        for (int i = 0; i < 6; i++) {
            for (int k = 0; k < 6; k++) {
                int train = i;
                int station = k;
                tell(o -> o.leaves(train, station));
            }
        }
    }

    private void line() {
        leaving();
        tell(OneTime::meet);
        row();
        tell(o -> o.station(0, 600));
        tell(o -> o.train(true, 60, 700, 60));
        leaving();
        tell(OneTime::close);
        leaving();
    }

    private void best() {
        tell(OneTime::free);
        leaving();
    }

    private void tape() {
        tell(o -> o.law(0, 0));
        for (int i = 0; i < 6; i++) {
            int matter = i;
            tell(o -> o.judged(0, matter, 1000));
        }
        tell(o -> o.count(7));
    }

    private void judgements() {
        int towns = x.count(0);
        for (int i = 0; i < towns; i++) {
            for (int k = 0; k < 6; k++) {
                int town = i;
                int matter = k;
                tell(o -> o.judged(town, matter, 100000));
                tell(o -> o.late(town, matter, 0, 399, 600, 620));
            }
        }
    }

    private void errors() {
        for (int i = 0; i < 7; i++) {
            int tower = i;
            for (int minute : MINUTES) {
                tell(o -> o.error(tower, minute));
            }
            tell(o -> o.set(tower, 575999));
        }
    }

    private void rounds() {
        for (int i = 0; i < 3; i++) {
            int town = i;
            tell(o -> o.round(town, 2000));
            row();
        }
    }

    /** How many more of each are taken. */
    private void room() {
        more(100, o -> o.sign(0));
        more(16, o -> o.town(0));
        more(60, o -> o.clock(0, 0, 0, 0));
        more(7, o -> o.tower(0, 0, 0));
        more(6, o -> o.train(true, 60, 700, 0));
        more(20, o -> {
            o.end(0);
            o.sign('a' << 24 | '=' << 16 | 'l' << 8);
            o.end(3);
            return Math.max(o.law(0, 0), OneTime.NONE);
        });
    }

    private void more(int most, Bounds.Act act) {
        int taken = 0;
        while (taken <= most && act.on(x) != OneTime.NONE) {
            taken++;
        }
        text.append(' ').append(taken);
    }
}
