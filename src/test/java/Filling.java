/** Objects to begin with. */
enum Filling implements Bounds.Maker {
    EMPTY(0, 0, 0, 0, 0, 0, 0),
    /** A little of everything, with room for more, and the first ten signs of a law on the tape. */
    SOME(3, 4, 3, 2, 2, 2, 3),
    /** Room for one more of each, but no trains, so that a station can come. */
    ALMOST(16, 59, 5, 0, 19, 6, 24),
    FULL(16, 60, 6, 6, 20, 7, 25);

    static final int[] SUNS = {-100, 40, 700, -720, 720, 0, 29, 30, -30, -31, 61, 300, -300, 90, -90, 5};
    private static final String TAPE = "c=z-17;d=l;e";

    private final int[] numbers;

    Filling(int... numbers) {
        this.numbers = numbers;
    }

    static OneTime withTowns(int... suns) {
        OneTime x = new OneTime();
        for (int sun : suns) {
            x.town(sun);
        }
        return x;
    }

    /** Stations at a town whose sun is 0, and so many runs between them. */
    static OneTime line(int... runs) {
        OneTime x = withTowns(0);
        x.station(0, 0);
        for (int run : runs) {
            x.station(0, run);
        }
        return x;
    }

    @Override
    public OneTime make() {
        OneTime x = new OneTime();
        int towns = numbers[0];
        for (int i = 0; i < towns; i++) {
            x.town(SUNS[i]);
        }
        for (int i = 0; i < numbers[1]; i++) {
            int[] args = {0, i % 25 - 12, (i % towns + 1) % towns};
            x.clock(i % towns, i * 37 % 400, i % 3, args[i % 3]);
        }
        fillLine(x);
        for (int i = 0; i < numbers[4]; i++) {
            Checks.law(x, "a=l+" + (10 + i) + ";b=z-" + i % 10, i % towns, i * 21 % 400);
        }
        for (int i = 0; i < numbers[5]; i++) {
            x.tower(i % towns, 100 * i, 170 * i - 600);
        }
        if (numbers[5] > 0) {
            x.round(1, 3000);
        }
        fillTape(x);
        return x;
    }

    private void fillLine(OneTime x) {
        for (int i = 0; i < numbers[2]; i++) {
            x.station(i % numbers[0], 10 + i);
        }
        for (int i = 0; i < numbers[3]; i++) {
            x.train(i % 2 == 0, 50, 700 + 7 * i, 3 * i);
            x.delay(i, (5 * i + 3) % 31);
        }
    }

    private void fillTape(OneTime x) {
        for (int i = 0; i < numbers[6]; i++) {
            int v = 0;
            for (int k = 0; k < 4; k++) {
                v = v << 8 | TAPE.charAt((4 * i + k) % TAPE.length());
            }
            x.sign(v);
        }
        if (this == SOME) {
            x.end(10);
        }
    }
}
