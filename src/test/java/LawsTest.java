/** Promises 18 to 22: the tape, laws as texts, what time holds for what. */
public final class LawsTest {
    private static final Checks CHECKS = new Checks("LawsTest");

    public static void main(String[] args) {
        signs();
        ends();
        goodTexts();
        wrongTexts();
        everySignEverywhere();
        longTexts();
        refusedLaws();
        lawsToTheLimit();
        theTapeIsEmptyThen();
        judging();
        judgingByDays();
        judgingZones();
        judgedWrongly();
        lateDays();
        lateByTimeOfDay();
        lateWrongly();
        CHECKS.finish();
    }

    private static void signs() {
        OneTime x = new OneTime();
        x.town(0);
        for (int i = 1; i <= 25; i++) {
            CHECKS.due("sign " + i, x.sign(i), 4 * i);
        }
        CHECKS.none("more than 100", x.sign(0));
        CHECKS.due("count(7)", x.count(7), 100);
        CHECKS.due("end(97)", x.end(97), true);
        CHECKS.none("101 would be more", x.sign(0));
        CHECKS.due("97 stay", x.count(7), 97);
        CHECKS.due("end(96)", x.end(96), true);
        CHECKS.due("100 are fine", x.sign(0), 100);
        x.end(0);
        x.sign('a' << 24 | '=' << 16 | 'l' << 8 | ';');
        x.sign('b' << 24 | '=' << 16 | 'l' << 8 | ' ');
        x.end(7);
        CHECKS.due("the highest byte first", x.law(0, 0), 1);
        // A byte above 127 is a sign of its own, which stands in no law.
        x.sign(0xE13D6C00);
        x.end(3);
        CHECKS.due("a sign above 127", x.law(0, 0), -1);
    }

    private static void ends() {
        OneTime x = new OneTime();
        CHECKS.due("end(0) of none", x.end(0), true);
        CHECKS.due("end(1) of none", x.end(1), false);
        x.sign(0);
        CHECKS.due("end(-1)", x.end(-1), false);
        CHECKS.due("end(5)", x.end(5), false);
        CHECKS.due("end of the greatest", x.end(Integer.MAX_VALUE), false);
        CHECKS.due("end of the least", x.end(Integer.MIN_VALUE), false);
        CHECKS.due("four stay", x.count(7), 4);
        CHECKS.due("end(4)", x.end(4), true);
        CHECKS.due("still four", x.count(7), 4);
        CHECKS.due("end(2)", x.end(2), true);
        CHECKS.due("two", x.count(7), 2);
        CHECKS.due("end(3)", x.end(3), false);
        CHECKS.due("behind two", x.sign(0), 6);
        CHECKS.due("end(0)", x.end(0), true);
        CHECKS.due("none", x.count(7), 0);
    }

    private static void goodTexts() {
        OneTime x = new OneTime();
        x.town(0);
        String[] texts = {"a=l", "f=c", "e=z", "a=l+1", "a=l-22", "a=l+333", "b=c+000", "a=l;b=z", "d=z-9;d=c+99;d=l-999",
            "a=l;b=l;c=l;d=l;e=l;f=l;a=c;b=c;c=c;d=c"};
        for (int i = 0; i < texts.length; i++) {
            CHECKS.due(texts[i], Checks.law(x, texts[i], 0, 0), i + 1);
        }
        CHECKS.due("count(4)", x.count(4), texts.length);
    }

    private static void wrongAt(OneTime x, String text, int place) {
        CHECKS.due(text, Checks.law(x, text, 0, 0), -1 - place);
    }

    private static void wrongTexts() {
        OneTime x = new OneTime();
        x.town(0);
        wrongAt(x, "", 0);
        wrongAt(x, "g=l", 0);
        wrongAt(x, "A=l", 0);
        wrongAt(x, "`=l", 0);
        wrongAt(x, " a=l", 0);
        wrongAt(x, ";a=l", 0);
        wrongAt(x, "=l", 0);
        wrongAt(x, "a", 1);
        wrongAt(x, "a:l", 1);
        wrongAt(x, "a =l", 1);
        wrongAt(x, "a=", 2);
        wrongAt(x, "a=a", 2);
        wrongAt(x, "a==", 2);
        wrongAt(x, "a= l", 2);
        wrongAt(x, "a=+1", 2);
        wrongAt(x, "a=ll", 3);
        wrongAt(x, "a=l ", 3);
        wrongAt(x, "a=l5", 3);
        wrongAt(x, "a=l=", 3);
        wrongAt(x, "a=l+", 4);
        wrongAt(x, "a=l-", 4);
        wrongAt(x, "a=l+-1", 4);
        wrongAt(x, "a=l+;", 4);
        wrongAt(x, "a=l+/", 4);
        wrongAt(x, "a=l+:", 4);
        wrongAt(x, "a=l+1+", 5);
        wrongAt(x, "a=l+12-", 6);
        wrongAt(x, "a=l+1234", 7);
        wrongAt(x, "a=l+123 ", 7);
        wrongAt(x, "a=l;", 4);
        wrongAt(x, "a=l;;", 4);
        wrongAt(x, "a=l; b=l", 4);
        wrongAt(x, "a=l;b", 5);
        wrongAt(x, "a=l+1;g", 6);
        wrongAt(x, "a=l+12;b=x", 9);
        wrongAt(x, "a=l+123;b=l-1;c=z+", 18);
        CHECKS.due("none is a law", x.count(4), 0);
    }

    /** Every sign at every place of a text, against what may stand there. */
    private static void everySignEverywhere() {
        String text = "a=l+12;f=z-345;c=c";
        String[] may = {"abcdef", "=", "lcz", "+-;", "0123456789", "0123456789;", "0123456789;", "abcdef", "=", "lcz", "+-;",
            "0123456789", "0123456789;", "0123456789;", ";", "abcdef", "=", "lcz"};
        for (int place = 0; place < text.length(); place++) {
            for (int sign = 0; sign < 256; sign++) {
                OneTime x = new OneTime();
                x.town(0);
                int answer = Checks.law(x, text.substring(0, place) + (char) sign, 0, 0);
                // It is a law, or only ends too early.
                boolean stands = answer == 1 || answer == -2 - place;
                CHECKS.due("sign " + sign + " at " + place, stands, may[place].indexOf(sign) >= 0);
            }
        }
    }

    private static void longTexts() {
        OneTime x = new OneTime();
        x.town(0);
        String items = "a=l;".repeat(9);
        wrongAt(x, items + "a=l+", 40);
        wrongAt(x, items + "a=l;", 40);
        wrongAt(x, items + "a=l+5", 40);
        wrongAt(x, items + "a=l+ ", 40);
        wrongAt(x, items + "a=l;b=l", 40);
        wrongAt(x, items + "a=l;" + items + items + "a=l", 40);
        wrongAt(x, items + "a=lx;b=l", 39);
        wrongAt(x, "x".repeat(100), 0);
        CHECKS.due("39 signs", Checks.law(x, items + "a=l", 0, 0), 1);
        CHECKS.due("40 signs", Checks.law(x, "a=l+1;a=l+1;" + "a=l;".repeat(6) + "a=l;".substring(0, 3), 0, 0), 2);
        CHECKS.due("40 signs, a number last", Checks.law(x, "a=l+12;" + "a=l;".repeat(7) + "a=l+7", 0, 0), 3);
        wrongAt(x, "a=l+12;" + "a=l;".repeat(7) + "a=l+77", 40);
    }

    private static void refusedLaws() {
        OneTime x = new OneTime();
        x.town(0);
        CHECKS.due("town 1", Checks.law(x, "a=l", 1, 0), -100);
        CHECKS.due("town -1", Checks.law(x, "a=l", -1, 0), -100);
        CHECKS.due("day -1", Checks.law(x, "a=l", 0, -1), -100);
        CHECKS.due("day 400", Checks.law(x, "a=l", 0, 400), -100);
        CHECKS.due("asked ahead of the text", Checks.law(x, "x", 1, 0), -100);
        CHECKS.due("none was told", x.count(4), 0);
        CHECKS.due("the last day", Checks.law(x, "a=l", 0, 399), 1);
    }

    private static void lawsToTheLimit() {
        OneTime x = new OneTime();
        x.town(0);
        x.town(0);
        for (int i = 1; i <= 20; i++) {
            CHECKS.due("law " + i, Checks.law(x, "a=l+" + i + ";f=l-" + i, i % 2, 10 * i), i);
        }
        CHECKS.due("law 21", Checks.law(x, "a=l", 0, 0), -100);
        CHECKS.due("law 21, wrong", Checks.law(x, "x", 0, 0), -100);
        CHECKS.due("count(4)", x.count(4), 20);
        for (int i = 1; i <= 20; i++) {
            int minute = 10 * i * 1440;
            CHECKS.due("a by law " + i, x.judged(i % 2, 0, minute), minute + i);
            CHECKS.due("f by law " + i, x.judged(i % 2, 5, minute), minute - i);
        }
    }

    private static void theTapeIsEmptyThen() {
        OneTime x = new OneTime();
        x.town(0);
        Checks.law(x, "a=l", 0, 0);
        CHECKS.due("behind a law", x.count(7), 0);
        Checks.law(x, "a=?", 0, 0);
        CHECKS.due("behind none", x.count(7), 0);
        Checks.law(x, "a=l", 9, 0);
        CHECKS.due("behind no such town", x.count(7), 0);
        CHECKS.due("an empty tape is no law", x.law(0, 0), -1);
    }

    private static void judging() {
        OneTime x = new OneTime();
        x.town(100);
        x.clock(0, 0, 1, -2);
        for (int matter = 0; matter < 6; matter++) {
            CHECKS.due("without any law: " + matter, x.judged(0, matter, 500), 380);
        }
        Checks.law(x, "a=l;b=c;c=z;d=l+20;e=c-300;f=z+999", 0, 0);
        int[] first = {600, 380, 620, 620, 80, 1619};
        for (int matter = 0; matter < 6; matter++) {
            CHECKS.due("told: " + matter, x.judged(0, matter, 500), first[matter]);
        }
        Checks.law(x, "a=l+7;b=z-20;a=c;b=z", 0, 0);
        int[] second = {380, 620, 380, 380, 380, 380};
        for (int matter = 0; matter < 6; matter++) {
            CHECKS.due("told twice, and not told: " + matter, x.judged(0, matter, 500), second[matter]);
        }
        x.clock(0, 0, 0, 0);
        CHECKS.due("another clock", x.judged(0, 0, 500), 600);
        CHECKS.due("below 0", x.judged(0, 0, 0), 100);
        Checks.law(x, "a=l-999", 0, 0);
        CHECKS.due("further below 0", x.judged(0, 0, 0), -899);
        CHECKS.due("the last minute", x.judged(0, 1, 575999), 576099);
        Checks.law(x, "a=l-0;b=l+007;c=l-010", 0, 0);
        CHECKS.due("less 0", x.judged(0, 0, 0), 100);
        CHECKS.due("007", x.judged(0, 1, 0), 107);
        CHECKS.due("010", x.judged(0, 2, 0), 90);
    }

    private static void judgingByDays() {
        OneTime x = new OneTime();
        x.town(0);
        x.town(0);
        Checks.law(x, "a=l+5", 0, 10);
        Checks.law(x, "a=l+3", 0, 5);
        Checks.law(x, "a=l+6;b=l+1", 0, 10);
        Checks.law(x, "a=l+9", 1, 0);
        CHECKS.due("ahead of all", x.judged(0, 0, 7199), 7199);
        CHECKS.due("from day 5 on", x.judged(0, 0, 7200), 7203);
        CHECKS.due("till day 10", x.judged(0, 0, 14399), 14402);
        CHECKS.due("of equal ones the one told last", x.judged(0, 0, 14400), 14406);
        CHECKS.due("to the end", x.judged(0, 0, 575999), 576005);
        Checks.law(x, "b=l+2", 0, 20);
        CHECKS.due("a law holds whole", x.judged(0, 0, 28800), 28800);
        x.clock(0, 15, 1, 1);
        CHECKS.due("the clock of the same day", x.judged(0, 0, 28800), 28860);
        CHECKS.due("ahead of its day", x.judged(0, 2, 15 * 1440 - 1), 15 * 1440 - 1);
    }

    private static void judgingZones() {
        int[] suns = {-720, -691, -690, -91, -90, -89, -31, -30, -29, 0, 29, 30, 31, 89, 90, 690, 720};
        int[] zones = {-720, -720, -660, -120, -60, -60, -60, 0, 0, 0, 0, 60, 60, 60, 120, 720, 720};
        for (int i = 0; i < suns.length; i++) {
            OneTime x = new OneTime();
            x.town(suns[i]);
            Checks.law(x, "c=z", 0, 0);
            CHECKS.due("the zone of sun " + suns[i], x.judged(0, 2, 1000), 1000 + zones[i]);
        }
    }

    private static void judgedWrongly() {
        OneTime x = new OneTime();
        x.town(0);
        CHECKS.noSuch("town -1", () -> x.judged(-1, 0, 0));
        CHECKS.noSuch("town 1", () -> x.judged(1, 0, 0));
        CHECKS.noSuch("matter -1", () -> x.judged(0, -1, 0));
        CHECKS.noSuch("matter 6", () -> x.judged(0, 6, 0));
        CHECKS.noSuch("minute -1", () -> x.judged(0, 0, -1));
        CHECKS.noSuch("minute 576000", () -> x.judged(0, 0, 576000));
        CHECKS.noSuch("the greatest", () -> x.judged(Integer.MAX_VALUE, Integer.MAX_VALUE, Integer.MAX_VALUE));
        CHECKS.noSuch("the least", () -> x.judged(Integer.MIN_VALUE, Integer.MIN_VALUE, Integer.MIN_VALUE));
    }

    private static void lateDays() {
        OneTime x = new OneTime();
        x.town(0);
        Checks.law(x, "a=c+10", 0, 100);
        x.clock(0, 200, 1, 1);
        Checks.law(x, "b=c", 0, 300);
        // At 600 it is 600, from day 100 on 610, from 200 on 670, from 300 on 660.
        CHECKS.due("all", x.late(0, 0, 0, 399, 600, 599), 400);
        CHECKS.due("not at the limit itself", x.late(0, 0, 0, 399, 600, 600), 300);
        CHECKS.due("above 609", x.late(0, 0, 0, 399, 600, 609), 300);
        CHECKS.due("above 610", x.late(0, 0, 0, 399, 600, 610), 200);
        CHECKS.due("above 660", x.late(0, 0, 0, 399, 600, 660), 100);
        CHECKS.due("above 670", x.late(0, 0, 0, 399, 600, 670), 0);
        CHECKS.due("both days too", x.late(0, 0, 99, 100, 600, 605), 1);
        CHECKS.due("one day", x.late(0, 0, 100, 100, 600, 605), 1);
        CHECKS.due("one day not", x.late(0, 0, 99, 99, 600, 605), 0);
        CHECKS.due("a few", x.late(0, 0, 250, 350, 600, 660), 50);
        CHECKS.due("another matter", x.late(0, 1, 0, 399, 600, 600), 200);
        CHECKS.due("the last day", x.late(0, 1, 399, 399, 0, 59), 1);
    }

    private static void lateByTimeOfDay() {
        OneTime x = new OneTime();
        x.town(-100);
        CHECKS.due("30 less 100 is 1370", x.late(0, 0, 0, 399, 30, 1369), 400);
        CHECKS.due("not later than 1370", x.late(0, 0, 0, 399, 30, 1370), 0);
        Checks.law(x, "a=l+999", 0, 0);
        // 600 and 899 are 1499: 59 past midnight.
        CHECKS.due("over midnight", x.late(0, 0, 0, 399, 600, 58), 400);
        CHECKS.due("not later than 59", x.late(0, 0, 0, 399, 600, 59), 0);
        Checks.law(x, "a=l-999", 0, 0);
        CHECKS.due("a day back", x.late(0, 0, 0, 0, 0, 340), 1);
        CHECKS.due("1440 less 1099", x.late(0, 0, 0, 0, 0, 341), 0);
        CHECKS.due("midnight is not later than 0", x.late(0, 1, 0, 9, 100, 0), 0);
        CHECKS.due("a minute behind it is", x.late(0, 1, 0, 9, 101, 0), 10);
        CHECKS.due("nothing is later than 1439", x.late(0, 1, 0, 9, 99, 1439), 0);
        CHECKS.due("1439 is later than 1438", x.late(0, 1, 0, 9, 99, 1438), 10);
    }

    private static void lateWrongly() {
        OneTime x = new OneTime();
        x.town(0);
        CHECKS.none("town 1", x.late(1, 0, 0, 0, 0, 0));
        CHECKS.none("town -1", x.late(-1, 0, 0, 0, 0, 0));
        CHECKS.none("matter 6", x.late(0, 6, 0, 0, 0, 0));
        CHECKS.none("matter -1", x.late(0, -1, 0, 0, 0, 0));
        CHECKS.none("from -1", x.late(0, 0, -1, 0, 0, 0));
        CHECKS.none("from 400", x.late(0, 0, 400, 400, 0, 0));
        CHECKS.none("to 400", x.late(0, 0, 0, 400, 0, 0));
        CHECKS.none("to -1", x.late(0, 0, 0, -1, 0, 0));
        CHECKS.none("to ahead of from", x.late(0, 0, 2, 1, 0, 0));
        CHECKS.none("time -1", x.late(0, 0, 0, 0, -1, 0));
        CHECKS.none("time 1440", x.late(0, 0, 0, 0, 1440, 0));
        CHECKS.none("limit -1", x.late(0, 0, 0, 0, 0, -1));
        CHECKS.none("limit 1440", x.late(0, 0, 0, 0, 0, 1440));
        CHECKS.due("the least that is fine", x.late(0, 0, 0, 0, 0, 0), 0);
        CHECKS.due("the greatest that is fine", x.late(0, 5, 399, 399, 1439, 1438), 1);
    }
}
