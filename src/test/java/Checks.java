import java.util.NoSuchElementException;

/** What all tests use: counts the answers, prints those that are not as due, ends with exit code 1 if there was one. */
class Checks {
    /** A call that may throw. */
    interface Call {
        long answer();
    }

    private final String name;
    // What of the document the next answers belong to, told ahead of each that is not as due.
    private String place = "";
    private int asked = 0;
    private int wrong = 0;

    Checks(String name) {
        this.name = name;
    }

    final void at(String words) {
        place = words;
    }

    final int asked() {
        return asked;
    }

    void due(String call, long got, long want) {
        asked++;
        if (got != want) {
            tell(call, "answered " + got + ", due is " + want);
        }
    }

    void due(String call, boolean got, boolean want) {
        asked++;
        if (got != want) {
            tell(call, "answered " + got + ", due is " + want);
        }
    }

    void none(String call, long got) {
        due(call, got, OneTime.NONE);
    }

    void noSuch(String call, Call made) {
        asked++;
        try {
            tell(call, "answered " + made.answer() + ", due is NoSuchElementException");
        } catch (NoSuchElementException due) {
            // This is what the document asks for.
        } catch (RuntimeException other) {
            tell(call, "threw " + other + ", due is NoSuchElementException");
        }
    }

    /** All of the row, by count and row. */
    void row(String after, OneTime x, int... want) {
        due(after + ": count(6)", x.count(6), want.length);
        for (int i = 0; i < want.length && i < x.count(6); i++) {
            due(after + ": row(" + i + ")", x.row(i), want[i]);
        }
        noSuch(after + ": row(" + want.length + ")", () -> x.row(want.length));
    }

    /** Puts a text on the tape, which is empty ahead of it. */
    static void write(OneTime x, String text) {
        x.end(0);
        for (int i = 0; i < text.length(); i += 4) {
            int v = 0;
            for (int k = i; k < i + 4; k++) {
                v = v << 8 | (k < text.length() ? text.charAt(k) & 255 : 0);
            }
            x.sign(v);
        }
        x.end(text.length());
    }

    static int law(OneTime x, String text, int town, int day) {
        write(x, text);
        return x.law(town, day);
    }

    private void tell(String call, String what) {
        wrong++;
        if (wrong <= 50) {
            System.out.println(name + ": " + place + call + " " + what);
        }
    }

    void finish() {
        System.out.println(name + ": " + asked + " answers, " + wrong + " not as due");
        if (wrong != 0) {
            System.exit(1);
        }
    }
}
