import java.util.List;
import java.util.NoSuchElementException;

/**
 * Checks that belong to sentences of the document. A test opens a sentence by its words, which must stand there, and
 * at the end all words of the places that the class of tests answers for must have been opened.
 */
final class Bounds extends Checks {
    /** What call() answers for NoSuchElementException, which no call of the face does. */
    static final long NO_SUCH = Long.MIN_VALUE;
    static final int LEAST = Integer.MIN_VALUE;
    static final int GREATEST = Integer.MAX_VALUE;

    /** Makes the object to begin with, each time a new one that is like the others. */
    interface Maker {
        OneTime make();
    }

    /** One call, or several, on an object; a boolean counts 1 or 0. */
    interface Act {
        long on(OneTime x);
    }

    /** A call with one of its numbers left open. */
    interface OpenAct {
        long on(OneTime x, int v);
    }

    private final Document document = new Document();
    private final List<String> places;
    private int askedBefore = 0;
    private boolean first = true;

    Bounds(String name, String... places) {
        super(name);
        this.places = List.of(places);
    }

    void promise(int number, String words) {
        open("Promise " + number, words);
    }

    void term(int number, String words) {
        open("Terms " + number, words);
    }

    void open(String place, String words) {
        endSentence();
        at(place + " \"" + words + "\": ");
        first = false;
        askedBefore = asked();
        if (!document.name(place, words)) {
            due("the document says so", false, true);
            askedBefore = asked();
        }
    }

    private void endSentence() {
        if (!first) {
            due("a sentence has checks", asked() > askedBefore, true);
        }
    }

    static long call(OneTime x, Act act) {
        try {
            return act.on(x);
        } catch (NoSuchElementException due) {
            return NO_SUCH;
        }
    }

    /** A refused call: it answers so, and all that can be seen is as it was. */
    void refused(String call, Maker maker, long want, Act act) {
        refusedButFor(call, maker, want, act, x -> 0);
    }

    /** A refused call that does one thing all the same (a law empties the tape). */
    void refusedButFor(String call, Maker maker, long want, Act act, Act does) {
        due(call + on(maker), call(maker.make(), act), want);
        alike(call + on(maker), maker, act, does);
    }

    /** All that can be seen is alike, whichever of the two is done. */
    void alike(String what, Maker maker, Act act, Act other) {
        String got = Seen.all(() -> after(maker.make(), act));
        String want = Seen.all(() -> after(maker.make(), other));
        due(what + " leaves\n  " + got + "\nfor\n  " + want + "\n", got.equals(want), true);
    }

    private static String on(Maker maker) {
        return maker instanceof Filling filling ? " on " + filling : "";
    }

    private static OneTime after(OneTime x, Act act) {
        call(x, act);
        return x;
    }

    /** The least and the greatest number that are taken, and beyond them on either side; ? stands for the number. */
    void edges(String call, Maker maker, int least, int greatest, long refusal, OpenAct act) {
        edgesButFor(call, maker, least, greatest, refusal, act, x -> 0);
    }

    /** The same for a call that does one thing also when it is refused. */
    void edgesButFor(String call, Maker maker, int least, int greatest, long refusal, OpenAct act, Act does) {
        for (int v : new int[] {least, greatest}) {
            due(call.replace("?", "" + v) + on(maker) + " is refused", call(maker.make(), x -> act.on(x, v)) == refusal,
                false);
        }
        for (int v : new int[] {least - 1, greatest + 1, LEAST, GREATEST}) {
            refusedButFor(call.replace("?", "" + v), maker, refusal, x -> act.on(x, v), does);
        }
    }

    @Override
    void finish() {
        endSentence();
        at("");
        for (String place : places) {
            String left = document.unnamed(place);
            due(place + ": no test names \"" + left + "\", so it", left.isEmpty(), true);
        }
        super.finish();
    }
}
