/** The boundary cases of the terms 3 and the promises 18 to 22, sentence by sentence: the tape and the laws. */
public final class LawBoundsTest {
    private static final long NO_SUCH = Bounds.NO_SUCH;
    private static final int NONE = OneTime.NONE;
    private static final int REFUSED = -100;
    /** A law of 40 signs. */
    private static final String FORTY = "a=l+1;b=c-22;c=z+333;d=l;e=c;f=z;a=c-123";
    private static final Bounds AT = new Bounds("LawBoundsTest", "Terms 3", "Promise 18", "Promise 19", "Promise 20",
        "Promise 21", "Promise 22");

    public static void main(String[] args) {
        termsOfLaws();
        termsOfTexts();
        termsOfTimes();
        promise18();
        promise19();
        promise20();
        promise21();
        promise22();
        AT.finish();
    }

    /** What a text as the first law of a new object's only town answers. */
    private static int told(String text) {
        return Checks.law(Filling.withTowns(0), text, 0, 0);
    }

    private static void isLaw(String text) {
        AT.due("\"" + text + "\"", told(text), 1);
    }

    private static void isNone(String text, int place) {
        AT.due("\"" + text + "\"", told(text), -1 - place);
    }

    /** A town with a sun, a zone from day 0 on, and a law. */
    private static OneTime town(int sun, int zone, String law) {
        OneTime x = Filling.withTowns(sun);
        x.clock(0, 0, 1, zone);
        AT.due("\"" + law + "\" is a law", Checks.law(x, law, 0, 0), 1);
        return x;
    }

    /** How far from the minute it is for each matter. */
    private static void shifts(String what, OneTime x, int... want) {
        for (int matter = 0; matter < 6; matter++) {
            AT.due(what + ": matter " + matter, x.judged(0, matter, 100000) - 100000, want[matter]);
        }
    }

    // ---- terms 3: laws

    private static void termsOfLaws() {
        termFromADay();
        termWithoutAny();
    }

    private static void termFromADay() {
        AT.term(3, "LAWS: of a TOWN, from a DAY on (as a CLOCK");
        for (int day : new int[] {0, 1, 200, 398, 399}) {
            OneTime x = Filling.withTowns(0, 0);
            Checks.law(x, "a=l+7", 0, day);
            int minute = day * 1440;
            if (day > 0) {
                AT.due("the minute ahead of day " + day, x.judged(0, 0, minute - 1), minute - 1);
            }
            AT.due("minute 0 of day " + day, x.judged(0, 0, minute), minute + 7);
            AT.due("to the end, from day " + day, x.judged(0, 0, 575999), 576006);
            AT.due("another town", x.judged(1, 0, 575999), 575999);
            Checks.law(x, "a=l+8", 0, day);
            AT.due("of equal ones the one told last", x.judged(0, 0, minute), minute + 8);
        }
        OneTime x = Filling.withTowns(0);
        Checks.law(x, "a=l+3", 0, 399);
        Checks.law(x, "a=l+2", 0, 100);
        Checks.law(x, "a=l+1", 0, 0);
        int[] days = {0, 99, 100, 101, 398, 399};
        int[] more = {1, 1, 2, 2, 2, 3};
        for (int i = 0; i < days.length; i++) {
            AT.due("the greatest not above " + days[i], x.judged(0, 0, days[i] * 1440) - days[i] * 1440, more[i]);
        }
    }

    private static void termWithoutAny() {
        AT.term(3, "; without any all matters go by its CLOCK)");
        OneTime x = Filling.withTowns(100, 200);
        x.clock(0, 0, 1, -12);
        shifts("no law", x, -720, -720, -720, -720, -720, -720);
        Checks.law(x, "a=l;b=l;c=l;d=l;e=l;f=l", 1, 0);
        shifts("another town's law", x, -720, -720, -720, -720, -720, -720);
        Checks.law(x, "a=l;b=l;c=l;d=l;e=l;f=l", 0, 399);
        shifts("a later law", x, -720, -720, -720, -720, -720, -720);
        AT.due("the minute ahead of its day", x.judged(0, 5, 399 * 1440 - 1), 399 * 1440 - 721);
        AT.due("its first minute", x.judged(0, 5, 399 * 1440), 399 * 1440 + 100);
    }

    // ---- terms 3: texts

    private static void termsOfTexts() {
        termFortySigns();
        termItems();
        termMatters();
        termTimes();
        termNumbers();
        termNoBlanks();
    }

    private static void termFortySigns() {
        AT.term(3, "a text of at most 40 signs");
        AT.due("its length", FORTY.length(), 40);
        isLaw(FORTY);
        isLaw(FORTY.substring(0, 39));
        isLaw("a=l");
        // One sign more, each time such that the text would be a law but for its length.
        String digits = "a=l+1;" + "a=l;".repeat(7) + "b=l+1";
        isLaw(digits);
        isLaw(digits + "2");
        isNone(digits + "23", 40);
        isNone("a=l+12;" + "a=l;".repeat(8) + "a=l", 40);
        isNone("a=l;".repeat(10) + "b=l", 40);
    }

    private static void termItems() {
        AT.term(3, "ITEMS with ; between, one at least");
        isNone("", 0);
        isNone(";", 0);
        isNone(";a=l", 0);
        isNone("a=l;", 4);
        isNone("a=l;;b=l", 4);
        isNone("a=lb=l", 3);
        isNone("a=l,b=l", 3);
        isNone("a=l:b=l", 3);
        isNone("a=l<b=l", 3);
        isNone("a=l+1b=l", 5);
        isLaw("a=l");
        isLaw("a=l;b=c");
        isLaw("a=l+1;b=c");
        isLaw("a=l+123;b=c");
        isLaw("a=l;b=c;c=z;d=l;e=c;f=z;a=l;b=c;c=z;d=l");
    }

    private static void termMatters() {
        AT.term(3, "a matter a .. f");
        for (char sign = 0; sign < 256; sign++) {
            boolean stands = sign >= 'a' && sign <= 'f';
            AT.due("first matter " + (int) sign, told(sign + "=l"), stands ? 1 : -1);
            AT.due("second matter " + (int) sign, told("a=l;" + sign + "=l"), stands ? 1 : -5);
        }
        String law = "a=l+1;b=l+2;c=l+3;d=l+4;e=l+5;f=l+6";
        shifts(law, town(0, 0, law), 1, 2, 3, 4, 5, 6);
    }

    private static void termTimes() {
        AT.term(3, ", = , one of l c z");
        for (char sign = 0; sign < 256; sign++) {
            boolean time = sign == 'l' || sign == 'c' || sign == 'z';
            AT.due("= as " + (int) sign, told("a" + sign + "l"), sign == '=' ? 1 : -2);
            AT.due("time " + (int) sign, told("a=" + sign), time ? 1 : -3);
        }
    }

    private static void termNumbers() {
        AT.term(3, "and perhaps + or - and a NUMBER of 1 to 3 digits.");
        for (char sign = 0; sign < 256; sign++) {
            boolean digit = sign >= '0' && sign <= '9';
            boolean sense = sign == '+' || sign == '-';
            AT.due("+ or - as " + (int) sign, told("a=l" + sign + "1"), sense ? 1 : sign == ';' ? -5 : -4);
            AT.due("a first digit " + (int) sign, told("a=l+" + sign), digit ? 1 : -5);
            AT.due("a second digit " + (int) sign, told("a=l-1" + sign), digit ? 1 : sign == ';' ? -7 : -6);
            AT.due("a third digit " + (int) sign, told("a=l+12" + sign), digit ? 1 : sign == ';' ? -8 : -7);
            AT.due("a fourth digit " + (int) sign, told("a=l-123" + sign), sign == ';' ? -9 : -8);
        }
        isNone("a=l+", 4);
        isNone("a=l-", 4);
        isNone("a=l+;b=l", 4);
        isNone("a=l+1234;b=l", 7);
        // Each number has its three digits, also the second one of a text.
        isLaw("a=l+123;b=l-456;a=c+789");
        isNone("a=l+123;b=l-4567", 15);
    }

    private static void termNoBlanks() {
        AT.term(3, "No blanks.");
        String text = "a=l+12;b=z";
        for (int place = 0; place <= text.length(); place++) {
            isNone(text.substring(0, place) + " " + text.substring(place), place);
            isNone(text.substring(0, place) + "\t" + text.substring(place), place);
            isNone(text.substring(0, place) + (char) 0 + text.substring(place), place);
        }
    }

    // ---- terms 3: times

    private static void termsOfTimes() {
        termSunOrClock();
        termNearest();
        termMoreOrLess();
        termToldTwice();
        termNotTold();
    }

    private static void termSunOrClock() {
        AT.term(3, "l: the SUN, c: the CLOCK");
        shifts("far apart", town(-720, 12, "a=l;b=c;c=z"), -720, 720, -720, 720, 720, 720);
        shifts("far apart, the other way", town(720, -12, "f=l;e=c;d=z"), -720, -720, -720, 720, -720, 720);
        OneTime x = town(7, 1, "a=c");
        x.clock(0, 5, 0, 0);
        AT.due("the clock of the day ahead", x.judged(0, 0, 5 * 1440 - 1), 5 * 1440 + 59);
        AT.due("the clock of that day", x.judged(0, 0, 5 * 1440), 5 * 1440 + 7);
    }

    private static void termNearest() {
        AT.term(3, "z: 60 times SUN by 60 to the nearest (of two the greater).");
        for (int sun = -720; sun <= 720; sun++) {
            int nearest = -720;
            for (int zone = -720; zone <= 720; zone += 60) {
                if (Math.abs(zone - sun) <= Math.abs(nearest - sun)) {
                    nearest = zone;
                }
            }
            AT.due("sun " + sun, town(sun, 3, "b=z").judged(0, 1, 1000), 1000 + nearest);
        }
        int[] suns = {-720, -691, -690, -31, -30, -29, 29, 30, 31, 689, 690, 720};
        int[] zones = {-720, -720, -660, -60, 0, 0, 0, 60, 60, 660, 720, 720};
        for (int i = 0; i < suns.length; i++) {
            AT.due("sun " + suns[i], town(suns[i], 3, "b=z").judged(0, 1, 1000), 1000 + zones[i]);
        }
    }

    private static void termMoreOrLess() {
        AT.term(3, "That many minutes more, less.");
        for (int number = 0; number <= 999; number++) {
            OneTime x = town(29, 1, "a=l+" + number + ";b=c-" + number + ";c=z+" + number);
            AT.due("l+" + number, x.judged(0, 0, 5000), 5029 + number);
            AT.due("c-" + number, x.judged(0, 1, 5000), 5060 - number);
            AT.due("z+" + number, x.judged(0, 2, 5000), 5000 + number);
        }
        shifts("noughts ahead", town(0, 0, "a=l+000;b=l-00;c=l-007;d=l+010;e=l-0"), 0, 0, -7, 10, 0, 0);
        shifts("nines", town(0, 0, "a=l+9;b=l-9;c=l+99;d=l-99;e=l+999;f=l-99"), 9, -9, 99, -99, 999, -99);
    }

    private static void termToldTwice() {
        AT.term(3, "Of one matter told twice the last ITEM holds");
        shifts("the number goes too", town(10, 1, "a=l+5;a=c"), 60, 60, 60, 60, 60, 60);
        shifts("a number comes", town(10, 1, "f=c;f=l-5"), 60, 60, 60, 60, 60, 5);
        shifts("three times, others between", town(10, 1, "a=l+1;b=l;a=z+2;c=l;a=l+3"), 13, 10, 10, 60, 60, 60);
        shifts("back to the clock", town(10, 1, "a=l+999;b=l;a=c-0"), 60, 10, 60, 60, 60, 60);
    }

    private static void termNotTold() {
        AT.term(3, "; matters that are not told go by the CLOCK.");
        for (int told = 0; told < 6; told++) {
            int[] want = {120, 120, 120, 120, 120, 120};
            want[told] = 15;
            shifts("only matter " + told, town(10, 2, (char) ('a' + told) + "=l+5"), want);
        }
        OneTime x = town(10, 2, "a=l+5;b=l+6;c=l+7;d=l+8;e=l+9;f=l");
        Checks.law(x, "c=l", 0, 0);
        shifts("nothing of an earlier law holds", x, 120, 120, 10, 120, 120, 120);
    }

    // ---- promise 18: sign

    private static void promise18() {
        promise18FourSigns();
        promise18MoreThanAHundred();
    }

    private static void promise18FourSigns() {
        AT.promise(18, "Four signs come behind THE TAPE, of v the highest byte first: how many it has.");
        OneTime x = new OneTime();
        for (int i = 1; i <= 25; i++) {
            AT.due("sign " + i, x.sign(-i), 4 * i);
        }
        // "a=l;" and "b=c" by their bytes.
        OneTime y = Filling.withTowns(9);
        y.sign(0x613D6C3B);
        y.sign(0x623D6300);
        y.end(7);
        AT.due("the highest byte first", y.law(0, 0), 1);
        AT.due("a by the sun", y.judged(0, 0, 0), 9);
        // A sign in each byte's place that cannot stand there.
        int[] wrong = {0x21000000, 0x61210000, 0x613D2100, 0x613D6C21};
        for (int place = 0; place < 4; place++) {
            OneTime z = Filling.withTowns(9);
            z.sign(wrong[place]);
            AT.due("byte " + place, z.law(0, 0), -1 - place);
        }
        // The highest bit of a byte counts: 0xE1 is not a (0x61), and a byte below it is not changed.
        int[] high = {0xE13D6C3B, 0x61BD6C3B, 0x613DEC3B, 0x613D6CBB};
        for (int place = 0; place < 4; place++) {
            OneTime z = Filling.withTowns(9);
            z.sign(high[place]);
            AT.due("a byte above 127 at " + place, z.law(0, 0), -1 - place);
        }
        OneTime behind = Filling.withTowns(9);
        behind.sign(0x613D6C21);
        behind.end(3);
        AT.due("behind three", behind.sign(0x2B353000), 7);
        behind.end(6);
        AT.due("a=l+50", behind.law(0, 0), 1);
        AT.due("a", behind.judged(0, 0, 0), 59);
    }

    private static void promise18MoreThanAHundred() {
        AT.promise(18, "NONE: there would be more than 100.");
        AT.due("the last four", Filling.ALMOST.make().sign(0), 100);
        for (int signs = 97; signs <= 100; signs++) {
            int n = signs;
            Bounds.Maker maker = () -> {
                OneTime x = Filling.FULL.make();
                x.end(n);
                return x;
            };
            AT.refused("behind " + n, maker, NONE, x -> x.sign(0x613D6C3B));
        }
        // What is refused overwrites nothing: the first 99 signs are as they were.
        OneTime x = Filling.withTowns(9);
        for (int i = 0; i < 25; i++) {
            x.sign(0x613D6C3B);
        }
        x.end(99);
        AT.due("behind 99", x.sign(0), NONE);
        AT.due("count(7)", x.count(7), 99);
        x.end(39);
        AT.due("the first 39 are a law", x.law(0, 0), 1);
        AT.due("there is room again", x.sign(0), 4);
    }

    // ---- promise 19: end

    private static void promise19() {
        promise19FirstSigns();
        promise19NotSoMany();
    }

    private static void promise19FirstSigns() {
        AT.promise(19, "THE TAPE has its first n signs alone: true");
        for (int n = 0; n <= 100; n++) {
            OneTime x = Filling.FULL.make();
            AT.due("end(" + n + ")", x.end(n), true);
            AT.due("then it has " + n, x.count(7), n);
        }
        // "a=l+123" is a law at 3, 5, 6 and 7 signs.
        int[] answers = {-1, -2, -3, 1, -5, 1, 1, 1};
        for (int n = 0; n < 8; n++) {
            OneTime x = Filling.withTowns(0);
            x.sign(0x613D6C2B);
            x.sign(0x31323300);
            x.end(n);
            AT.due("the first " + n, x.law(0, 0), answers[n]);
        }
        AT.alike("all that it has", Filling.SOME, x -> x.end(10) ? 1 : 0, x -> 0);
        AT.alike("none of none", Filling.EMPTY, x -> x.end(0) ? 1 : 0, x -> 0);
    }

    private static void promise19NotSoMany() {
        AT.promise(19, "; false if it has not so many, or n is below 0.");
        AT.edges("end(?)", Filling.EMPTY, 0, 0, 0, (x, v) -> x.end(v) ? 1 : 0);
        AT.edges("end(?)", Filling.SOME, 0, 10, 0, (x, v) -> x.end(v) ? 1 : 0);
        AT.edges("end(?)", Filling.FULL, 0, 100, 0, (x, v) -> x.end(v) ? 1 : 0);
        OneTime x = Filling.SOME.make();
        x.end(4);
        AT.due("what was cut off is gone", x.end(5), false);
    }

    // ---- promise 20: law

    private static void promise20() {
        promise20HowMany();
        promise20FirstWrongSign();
        promise20EndsTooEarly();
        promise20MoreThanForty();
        promise20NoSuchNumbers();
        promise20Twenty();
    }

    private static void promise20HowMany() {
        AT.promise(20, "THE TAPE, which is empty then, is a LAW of a TOWN from a DAY on: how many were told in all.");
        OneTime x = Filling.withTowns(0, 0, 0);
        for (int i = 1; i <= 20; i++) {
            AT.due("law " + i, Checks.law(x, "a=l+" + i, i % 3, 400 - i), i);
            AT.due("the tape then", x.count(7), 0);
            Checks.law(x, "a", i % 3, 0);
            AT.due("the tape behind none", x.count(7), 0);
            AT.due("count(4)", x.count(4), i);
        }
        AT.due("the 20th is there", x.judged(2, 0, 380 * 1440), 380 * 1440 + 20);
        AT.due("FULL has a tape", Filling.FULL.make().count(7), 100);
        AT.alike("a law of an empty tape", Filling.FULL, y -> y.law(0, 0), y -> y.end(0) ? 1 : 0);
    }

    private static void promise20FirstWrongSign() {
        AT.promise(20, "-1 - p: it is none: p is the place of the first sign that can't stand there");
        for (int place = 0; place < 40; place++) {
            isNone(FORTY.substring(0, place) + "!" + FORTY.substring(place + 1), place);
            isNone(FORTY.substring(0, place) + "!!", place);
            isNone(FORTY.substring(0, place) + "!" + "a=l;".repeat(14), place);
        }
        isNone("!".repeat(100), 0);
        isNone("a=l+1!", 5);
        Bounds.Maker wrong = () -> {
            OneTime x = Filling.SOME.make();
            Checks.write(x, "a=l;b=l+1234");
            return x;
        };
        AT.refusedButFor("a law that is none", wrong, -12, x -> x.law(0, 0), x -> x.end(0) ? 1 : 0);
    }

    private static void promise20EndsTooEarly() {
        AT.promise(20, "(its end, if it ends too early");
        // What FORTY may end behind: a time or a digit.
        for (int n = 0; n <= 40; n++) {
            char last = n == 0 ? ';' : FORTY.charAt(n - 1);
            boolean time = n > 1 && FORTY.charAt(n - 2) == '=';
            boolean ends = time || last >= '0' && last <= '9';
            if (ends) {
                isLaw(FORTY.substring(0, n));
            } else {
                isNone(FORTY.substring(0, n), n);
            }
        }
        isNone("a=l;".repeat(10), 40);
        isNone("a=l;".repeat(9) + "a=l+", 40);
        isNone("a=l+1;" + "a=l;".repeat(8) + "a=", 40);
        isNone("a=l+12;" + "a=l;".repeat(8) + "a", 40);
        Bounds.Maker empty = () -> {
            OneTime x = Filling.SOME.make();
            x.end(0);
            return x;
        };
        AT.refused("an empty tape", empty, -1, x -> x.law(0, 0));
    }

    private static void promise20MoreThanForty() {
        AT.promise(20, "; 40, if it has more and the first 40 could go on or end)");
        String goOn = "a=l;".repeat(9);
        for (String end : new String[] {";", "!", "0", "=", ";a=l", "+1", "l".repeat(60)}) {
            isNone(FORTY + end, 40);
            isNone(goOn + "a=l;" + end, 40);
            isNone(goOn + "a=l+" + end, 40);
            isNone("a=l+1;" + "a=l;".repeat(8) + "a=" + end, 40);
            isNone("a=l+12;" + "a=l;".repeat(8) + "a" + end, 40);
        }
        isNone(goOn + "a=l!" + ";a=l", 39);
        isNone(goOn + "a=!;" + "a=l;", 38);
    }

    private static void promise20NoSuchNumbers() {
        AT.promise(20, "-100: no such TOWN, DAY");
        AT.edgesButFor("law(?, 0)", Filling.SOME, 0, 2, REFUSED, (x, v) -> x.law(v, 0), x -> x.end(0) ? 1 : 0);
        AT.edgesButFor("law(?, 399)", Filling.ALMOST, 0, 15, REFUSED, (x, v) -> x.law(v, 399), x -> x.end(0) ? 1 : 0);
        AT.edgesButFor("law(0, ?)", Filling.SOME, 0, 399, REFUSED, (x, v) -> x.law(0, v), x -> x.end(0) ? 1 : 0);
        AT.edgesButFor("law(2, ?)", Filling.SOME, 0, 399, REFUSED, (x, v) -> x.law(2, v), x -> x.end(0) ? 1 : 0);
        AT.refused("no town at all", Filling.EMPTY, REFUSED, x -> x.law(0, 0));
    }

    private static void promise20Twenty() {
        AT.promise(20, "; 20 (asked first).");
        for (String text : new String[] {"a=l", "", "!", "a=l+", FORTY, FORTY + ";", "!".repeat(96)}) {
            OneTime x = Filling.FULL.make();
            AT.due("\"" + text + "\" as the 21st", Checks.law(x, text, 0, 0), REFUSED);
            AT.due("the tape then", x.count(7), 0);
            AT.due("count(4)", x.count(4), 20);
            AT.due("\"" + text + "\" of no such town", Checks.law(Filling.withTowns(0), text, 1, 0), REFUSED);
            AT.due("\"" + text + "\" from no such day", Checks.law(Filling.withTowns(0), text, 0, 400), REFUSED);
        }
        AT.due("the 20th", Checks.law(Filling.ALMOST.make(), "a=l", 15, 399), 20);
        AT.refusedButFor("the 21st", Filling.FULL, REFUSED, x -> x.law(15, 399), x -> x.end(0) ? 1 : 0);
    }

    // ---- promise 21: judged

    private static void promise21() {
        promise21ByTheLaw();
        promise21NoneSuch();
    }

    private static void promise21ByTheLaw() {
        AT.promise(21, "What time it is for a matter (0 .. 5: a .. f) in a TOWN at a MINUTE, by the LAW that holds on that "
            + "DAY (READING).");
        OneTime low = town(-720, 0, "a=l-999;f=l-998");
        AT.due("the least", low.judged(0, 0, 0), -1719);
        AT.due("the least for f", low.judged(0, 5, 0), -1718);
        OneTime high = town(720, 0, "a=l+998;f=l+999");
        AT.due("the greatest", high.judged(0, 5, 575999), 577718);
        AT.due("the greatest for a", high.judged(0, 0, 575999), 577717);
        Checks.law(high, "a=c", 0, 399);
        AT.due("the law of the day ahead", high.judged(0, 0, 399 * 1440 - 1), 399 * 1440 + 1717);
        AT.due("the law of that day", high.judged(0, 0, 399 * 1440), 399 * 1440);
        AT.alike("judged", Filling.FULL, x -> x.judged(0, 0, 0), x -> 0);
    }

    private static void promise21NoneSuch() {
        AT.promise(21, "NoSuchElementException: none such.");
        AT.edges("judged(?, 0, 0)", Filling.SOME, 0, 2, NO_SUCH, (x, v) -> x.judged(v, 0, 0));
        AT.edges("judged(?, 5, 575999)", Filling.FULL, 0, 15, NO_SUCH, (x, v) -> x.judged(v, 5, 575999));
        AT.edges("judged(0, ?, 0)", Filling.SOME, 0, 5, NO_SUCH, (x, v) -> x.judged(0, v, 0));
        AT.edges("judged(15, ?, 0)", Filling.FULL, 0, 5, NO_SUCH, (x, v) -> x.judged(15, v, 0));
        AT.edges("judged(0, 0, ?)", Filling.SOME, 0, 575999, NO_SUCH, (x, v) -> x.judged(0, 0, v));
        AT.edges("judged(15, 5, ?)", Filling.FULL, 0, 575999, NO_SUCH, (x, v) -> x.judged(15, 5, v));
    }

    // ---- promise 22: late

    private static void promise22() {
        promise22BothToo();
        promise22TimeOfTheDay();
        promise22Later();
        promise22NoneSuch();
    }

    private static void promise22BothToo() {
        AT.promise(22, "How many DAYS from one to another (both too)");
        // It is later than 600 on the days 100 .. 199 alone.
        OneTime x = town(0, 0, "b=l");
        Checks.law(x, "a=l+1", 0, 100);
        Checks.law(x, "b=l", 0, 200);
        int[][] asked = {{0, 399, 100}, {0, 99, 0}, {0, 100, 1}, {99, 100, 1}, {100, 100, 1}, {100, 199, 100}, {199, 199, 1},
            {199, 200, 1}, {200, 200, 0}, {200, 399, 0}, {150, 160, 11}, {99, 99, 0}, {0, 0, 0}, {399, 399, 0}};
        for (int[] days : asked) {
            AT.due("from " + days[0] + " to " + days[1], x.late(0, 0, days[0], days[1], 600, 600), days[2]);
        }
        OneTime all = Filling.withTowns(0);
        AT.due("the first day", all.late(0, 0, 0, 0, 1, 0), 1);
        AT.due("the last day", all.late(0, 0, 399, 399, 1, 0), 1);
        AT.due("all days", all.late(0, 0, 0, 399, 1, 0), 400);
        AT.alike("late", Filling.FULL, y -> y.late(0, 0, 0, 399, 600, 0), y -> 0);
    }

    private static void promise22TimeOfTheDay() {
        AT.promise(22, "on which at a time of the DAY (MINUTE of it, 0 .. 1439)");
        AT.edges("late(0, 0, 0, 399, ?, 0)", Filling.SOME, 0, 1439, NONE, (x, v) -> x.late(0, 0, 0, 399, v, 0));
        OneTime x = Filling.withTowns(0);
        AT.due("its first minute", x.late(0, 0, 5, 6, 0, 0), 0);
        AT.due("its second minute", x.late(0, 0, 5, 6, 1, 0), 2);
        AT.due("its last minute", x.late(0, 0, 5, 6, 1439, 1438), 2);
        // A clock told from day 6 on holds at the first minute of day 6, not at the last one of day 5.
        x.clock(0, 6, 1, 1);
        AT.due("the first minute of day 6", x.late(0, 0, 5, 6, 0, 59), 1);
        AT.due("the last minutes", x.late(0, 0, 5, 6, 1439, 59), 1);
    }

    private static void promise22Later() {
        AT.promise(22, "it is for a matter in a TOWN later than a limit (0 .. 1439; by the time of day shown).");
        AT.edges("late(0, 0, 0, 399, 0, ?)", Filling.SOME, 0, 1439, NONE, (x, v) -> x.late(0, 0, 0, 399, 0, v));
        for (int sun : new int[] {-720, -1, 0, 1, 720}) {
            for (int more : new int[] {-999, -720, -719, -1, 0, 1, 719, 720, 721, 999}) {
                OneTime x = town(sun, 0, "a=l" + (more < 0 ? "" : "+") + more);
                for (int time : new int[] {0, 1, 719, 720, 721, 1438, 1439}) {
                    int shown = (time + sun + more + 2880) % 1440;
                    String call = "sun " + sun + " and " + more + " at " + time;
                    AT.due(call + ", the limit itself", x.late(0, 0, 7, 7, time, shown), 0);
                    if (shown > 0) {
                        AT.due(call + ", a limit below", x.late(0, 0, 7, 7, time, shown - 1), 1);
                    }
                    AT.due(call + ", the least limit", x.late(0, 0, 7, 7, time, 0), shown > 0 ? 1 : 0);
                    AT.due(call + ", the greatest limit", x.late(0, 0, 7, 7, time, 1439), 0);
                }
            }
        }
        OneTime matters = town(0, 0, "a=l+1;f=l+2");
        AT.due("matter a", matters.late(0, 0, 0, 399, 0, 0), 400);
        AT.due("matter e", matters.late(0, 4, 0, 399, 0, 0), 0);
        AT.due("matter f", matters.late(0, 5, 0, 399, 0, 1), 400);
    }

    private static void promise22NoneSuch() {
        AT.promise(22, "NONE: none such.");
        AT.edges("late(?, 0, 0, 0, 0, 0)", Filling.SOME, 0, 2, NONE, (x, v) -> x.late(v, 0, 0, 0, 0, 0));
        AT.edges("late(?, 5, 399, 399, 9, 9)", Filling.FULL, 0, 15, NONE, (x, v) -> x.late(v, 5, 399, 399, 9, 9));
        AT.edges("late(0, ?, 0, 0, 0, 0)", Filling.SOME, 0, 5, NONE, (x, v) -> x.late(0, v, 0, 0, 0, 0));
        AT.edges("late(0, 0, ?, 399, 0, 0)", Filling.FULL, 0, 399, NONE, (x, v) -> x.late(0, 0, v, 399, 0, 0));
        AT.edges("late(0, 0, 0, ?, 0, 0)", Filling.FULL, 0, 399, NONE, (x, v) -> x.late(0, 0, 0, v, 0, 0));
        AT.edges("late(0, 0, 0, 0, ?, 0)", Filling.FULL, 0, 1439, NONE, (x, v) -> x.late(0, 0, 0, 0, v, 0));
        AT.edges("late(0, 0, 0, 0, 0, ?)", Filling.FULL, 0, 1439, NONE, (x, v) -> x.late(0, 0, 0, 0, 0, v));
        AT.refused("to a day ahead", Filling.SOME, NONE, x -> x.late(0, 0, 1, 0, 0, 0));
        AT.refused("to the first from the last", Filling.SOME, NONE, x -> x.late(0, 0, 399, 0, 0, 0));
        AT.due("to the same", Filling.SOME.make().late(0, 0, 1, 1, 0, 1439), 0);
    }
}
