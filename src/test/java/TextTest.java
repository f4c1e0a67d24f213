/** Promises 10 and 11: the text and the set-ups that are read from it. */
public final class TextTest {
    private static final String LETTERS = "avsgoflwt";
    private static final String ELEVEN = "a1;a2;a3;a4;a5;a6;a7;a8;a9;a10;a11;";

    public static void main(String[] args) {
        signsTaken();
        signsRefused();
        hundredBytes();
        badAheadOfFull();
        emptyBehindRead();
        emptyText();
        endsTooEarly();
        oneToTwelve();
        noneBehindTheTwelfth();
        longestSetUp();
        lettersOfClauses();
        beginOfNumber();
        digitBehindMinus();
        oneToThreeDigits();
        onlySemicolonBetween();
        faultIsTheFirst();
        noneDoneByFault();
        oneBehindTheOther();
        boundsOfClauses();
        refusedAreNot();
        ticksOfClauses();
        ticksAtClocksEnd();
        wheelsOfClauses();
        tenLessTheFault();
        Check.end();
    }

    private static void signsTaken() {
        Check.sentence("Promise 10", "A sign (0 .. 127) comes behind THE TEXT's");
        WatchBeats x = new WatchBeats();
        for (int i = 0; i < 4; i++) {
            Check.due("feed", x.feed(Values.atBounds(0, 127)[i]), i + 1);
            Check.due("bytes of THE TEXT", x.count(2), i + 1);
        }
    }

    private static void signsRefused() {
        Check.sentence("Promise 10", "BAD;");
        for (int sign : Values.outside(0, 127)) {
            Still.refused("feed(" + sign + ")", WatchBeats.BAD, x -> x.feed(sign));
        }
    }

    private static void hundredBytes() {
        Check.sentence("1 THE BALANCE", "THE TEXT (bytes, 100 at most)");
        WatchBeats x = new WatchBeats();
        for (int i = 1; i <= 100; i++) {
            Check.due("feed", x.feed('a'), i);
        }
        Check.due("a sign more", x.feed('a'), WatchBeats.FULL);
        Check.due("bytes of THE TEXT", x.count(2), 100);
        for (int sign : new int[] {0, '1', ';', 'a', 127}) {
            Still.refusedIn(Start.FULL, "feed(" + sign + ")", WatchBeats.FULL, y -> y.feed(sign));
        }
    }

    private static void badAheadOfFull() {
        Check.sentence("Promise 10", "BAD; FULL.");
        for (int sign : Values.outside(0, 127)) {
            Still.refusedIn(Start.FULL, "feed(" + sign + ")", WatchBeats.BAD, x -> x.feed(sign));
        }
    }

    private static void emptyBehindRead() {
        Check.sentence("Promise 11", "THE TEXT, which is empty then (by a FAULT, too)");
        for (String text : new String[] {"a5", "a", "q", ""}) {
            WatchBeats x = new WatchBeats();
            Watches.read(x, text);
            Check.due("bytes behind read() of '" + text + "'", x.count(2), 0);
            Check.due("read() again", x.read(), -10);
            Check.due("the first sign again", x.feed('v'), 1);
            x.feed('7');
            Check.due("read() of what came since", x.read(), 1);
            Check.due("SPEED", x.told(1), 7);
        }
        WatchBeats full = Start.FULL.watch();
        Check.due("read() of a hundred bytes", full.read(), -81);
        Check.due("there is room again", full.feed('a'), 1);
    }

    /** The FAULT is told, THE TEXT is empty, and nothing else changes, in each of the starts. */
    private static void faultDue(String text, int fault) {
        for (Start start : Start.values()) {
            Still.refusedBy(start + ": read() of '" + text + "'", () -> withoutText(start), -10 - fault,
                x -> Watches.read(x, text));
        }
    }

    private static WatchBeats withoutText(Start start) {
        WatchBeats x = start.watch();
        x.read();
        return x;
    }

    private static void emptyText() {
        Check.sentence("1 THE BALANCE", "CLAUSES, 1 to 12");
        faultDue("", 0);
    }

    private static void endsTooEarly() {
        Check.sentence("1 THE BALANCE", "(the end of THE TEXT, if it ends too early;");
        faultDue("a", 1);
        faultDue("a-", 2);
        faultDue("a1;", 3);
        faultDue("a-12;", 5);
        faultDue("a1;v", 4);
        faultDue("a1;v-", 5);
        faultDue(ELEVEN, ELEVEN.length());
        faultDue(ELEVEN + "a", ELEVEN.length() + 1);
    }

    private static void oneToTwelve() {
        Check.sentence("1 THE BALANCE", "CLAUSES, 1 to 12, with ; between");
        StringBuilder text = new StringBuilder();
        for (int clauses = 1; clauses <= 12; clauses++) {
            text.append(clauses > 1 ? ";" : "").append("a").append(100 + clauses);
            WatchBeats x = new WatchBeats();
            Check.due("read() of " + text, Watches.read(x, text.toString()), clauses);
            Check.due("the last is done last", x.told(0), 100 + clauses);
        }
        faultDue(text + ";a113", text.length());
    }

    private static void noneBehindTheTwelfth() {
        Check.sentence("1 THE BALANCE", "(none behind the twelfth)");
        faultDue(ELEVEN + "a1;", ELEVEN.length() + 2);
        faultDue(ELEVEN + "a1;a1", ELEVEN.length() + 2);
        faultDue(ELEVEN + "a-123;", ELEVEN.length() + 5);
        faultDue(ELEVEN + "a1x", ELEVEN.length() + 2);
        faultDue(ELEVEN + "a1-", ELEVEN.length() + 2);
    }

    private static void longestSetUp() {
        Check.sentence("1 THE BALANCE", "N: perhaps -, 1 to 3 digits.");
        String longest = "a-111;a-222;a-299;a-300;v-111;v-400;o-019;o-020;a-007;v-008;o-009;a-010";
        Check.due("its bytes", longest.length(), 71);
        WatchBeats x = new WatchBeats();
        Check.due("read() of twelve as long as can be", Watches.read(x, longest), 12);
        Watches.toldDue("the last of each hold", x, -10, -8, 4, 0, -9);
        faultDue(longest + ";", 71);
        faultDue(longest + "0", 71);
        faultDue(longest + "0".repeat(29), 71);
        faultDue("0".repeat(100), 0);
    }

    /** For each sign: the answer of read() to the text with it at the end. */
    private static void signsDue(String text, String fine, int done, String more, int moreFault) {
        for (char sign = 0; sign < 128; sign++) {
            WatchBeats x = new WatchBeats();
            int due = fine.indexOf(sign) >= 0 ? done : more.indexOf(sign) >= 0 ? -10 - moreFault : -10 - text.length();
            Check.due("read() of '" + text + "' and the sign " + (int) sign, Watches.read(x, text + sign), due);
        }
    }

    private static void lettersOfClauses() {
        Check.sentence("1 THE BALANCE", "a N (ANGLE), v N (SPEED), s N (STIFF), g N (DRAG), o N (OFFSET), f N (FORCE), "
            + "l N (LIFE), each becomes N; w N (a WHEEL comes); t N (N TICKS go by, as by go())");
        for (char sign = 0; sign < 128; sign++) {
            boolean isLetter = LETTERS.indexOf(sign) >= 0;
            WatchBeats x = new WatchBeats();
            Check.due("read() of the sign " + (int) sign + " and 3", Watches.read(x, sign + "3"), isLetter ? 1 : -10);
            WatchBeats y = new WatchBeats();
            Check.due("as the second", Watches.read(y, "a1;" + sign + "3"), isLetter ? 2 : -13);
        }
        WatchBeats all = new WatchBeats();
        Check.due("read all", Watches.read(all, "a-90;v12;s9;g2;o-7;f60;l3;w30;w2;t1"), 10);
        // The pull is 90 * 9 / 32 = 25 upward, the drag 2.
        Watches.toldDue("all", all, -55, 35, 9, 2, -7, 60, 3, 0, 1, 0, 0, 0, 2);
    }

    private static void beginOfNumber() {
        Check.sentence("1 THE BALANCE", "N: perhaps -, 1 to 3 digits. Nothing else stands between (no blanks).");
        signsDue("a", "0123456789", 1, "-", 2);
        signsDue("a1;t1;o", "0123456789", 3, "-", 8);
        faultDue("a 1", 1);
        faultDue("a+1", 1);
        faultDue("aa1", 1);
        faultDue("a;v1", 1);
    }

    private static void digitBehindMinus() {
        Check.sentence("1 THE BALANCE", "of a - behind which no digit is the place behind it");
        signsDue("a-", "0123456789", 1, "", 0);
        faultDue("a-;", 2);
        faultDue("a--1", 2);
        faultDue("a- 1", 2);
        faultDue("v1;a-;v1", 5);
    }

    private static void oneToThreeDigits() {
        Check.sentence("1 THE BALANCE", "1 to 3 digits");
        int[] numbers = {7, 70, 299, -7, -70, -299};
        for (int n : numbers) {
            WatchBeats x = new WatchBeats();
            Check.due("read() of a" + n, Watches.read(x, "a" + n), 1);
            Check.due("ANGLE", x.told(0), n);
        }
        WatchBeats zeros = new WatchBeats();
        Check.due("read() of zeros", Watches.read(zeros, "a007;v-00;s032;o-001;f000"), 5);
        Watches.toldDue("zeros ahead", zeros, 7, 0, 32, 0, -1, 0);
        signsDue("a123", "", 0, ";", 5);
        signsDue("a-123", "", 0, ";", 6);
        faultDue("a1234", 4);
        faultDue("a-1234", 5);
        faultDue("a0001", 4);
    }

    private static void onlySemicolonBetween() {
        Check.sentence("1 THE BALANCE", "Nothing else stands between (no blanks).");
        signsDue("a1", "0123456789", 1, ";", 3);
        faultDue("a1;;v2", 3);
        faultDue("a1; v2", 3);
        faultDue("a1 ;v2", 2);
        faultDue("a1,v2", 2);
        faultDue("a1v2", 2);
        faultDue(" a1", 0);
        faultDue("a1 ", 2);
        faultDue(";a1", 0);
    }

    private static void faultIsTheFirst() {
        Check.sentence("1 THE BALANCE", "The FAULT: the place of the first byte with which none begins so");
        faultDue("q", 0);
        faultDue("1", 0);
        faultDue("-1", 0);
        faultDue("A1", 0);
        faultDue("q1;r1", 0);
        faultDue("a5;v6;q7;r", 6);
        faultDue("a5;v6;s", 7);
        faultDue("a5;vx;sx", 4);
    }

    private static void noneDoneByFault() {
        Check.sentence("1 THE BALANCE", "Without FAULT they are done");
        faultDue("a5;v6;s7;g8;o9;f9;l9;w9;t9;x", 27);
        faultDue("w9;w9;t400;a1x", 13);
        faultDue("a5;t1;", 6);
    }

    private static void oneBehindTheOther() {
        Check.sentence("1 THE BALANCE", "they are done, one behind the other");
        WatchBeats x = new WatchBeats();
        Check.due("twelve", Watches.read(x, ELEVEN + "a12"), 12);
        Check.due("the last holds", x.told(0), 12);
        WatchBeats y = Watches.scripted();
        Check.due("TICKS between", Watches.read(y, "t3;v0;a-1;t400"), 4);
        Check.due("CLOCK", y.told(8), 403);
        WatchBeats byHand = Watches.scripted();
        byHand.go(3);
        byHand.set(1, 0);
        byHand.set(0, -1);
        byHand.go(400);
        Watches.sameDue("as by hand", Watches.allOf(y), Watches.allOf(byHand));
    }

    private static void boundDue(String letter, int what, int least, int most) {
        for (int n : Values.atBounds(least, most)) {
            WatchBeats x = new WatchBeats();
            Check.due("read() of " + letter + n, Watches.read(x, letter + n), 1);
            Check.due("told(" + what + ")", x.told(what), n);
        }
        for (int n : new int[] {least - 1, most + 1, -999, 999}) {
            for (Start start : Start.values()) {
                Still.refusedBy(start + ": read() of " + letter + n, () -> withoutText(start), 0,
                    x -> Watches.read(x, letter + n));
            }
        }
    }

    private static void boundsOfClauses() {
        Check.sentence("1 THE BALANCE", "those that would be refused aren't");
        boundDue("a", 0, -300, 300);
        boundDue("v", 1, -400, 400);
        boundDue("s", 2, 1, 32);
        boundDue("g", 3, 0, 9);
        boundDue("o", 4, -20, 20);
        boundDue("f", 5, 0, 60);
        boundDue("l", 6, 1, 99);
    }

    private static void refusedAreNot() {
        Check.sentence("Promise 11", "how many CLAUSES were done");
        WatchBeats x = new WatchBeats();
        Check.due("some refused", Watches.read(x, "a-300;a-301;v-400;v-401;w1;w100;w-5;g-1;t-1;g9"), 3);
        Watches.toldDue("some refused", x, -300, -400, 4, 9, 0, 20, 10, 0, 0, 0, 0, 0, 0);
        String refused = "a301;v401;s0;s33;g10;o-21;f61;f-1;l0;l100;t0;t401";
        for (Start start : Start.values()) {
            Still.refusedBy(start + ": twelve refused", () -> withoutText(start), 0, y -> Watches.read(y, refused));
        }
        Check.due("what changes no number is done, too", Watches.read(new WatchBeats(), "a0;v0;s4;f20;l10"), 5);
    }

    private static void ticksOfClauses() {
        Check.sentence("1 THE BALANCE", "t N (N TICKS go by, as by go())");
        for (int n : Values.atBounds(1, 400)) {
            WatchBeats x = Watches.scripted();
            Check.due("read() of t" + n, Watches.read(x, "t" + n), 1);
            Check.due("CLOCK", x.told(8), n);
        }
        for (int n : new int[] {0, 401, -1, -400, 999, -999}) {
            for (Start start : Start.values()) {
                Still.refusedBy(start + ": read() of t" + n, () -> withoutText(start), 0,
                    x -> Watches.read(x, "t" + n));
            }
        }
    }

    private static void ticksAtClocksEnd() {
        Check.sentence("Promise 6", "FULL: CLOCK would be above 99999.");
        Still.refusedIn(Start.LAST_CLOCK, "read() of t1", 0, x -> Watches.read(x, "t1"));
        Still.refusedIn(Start.LAST_CLOCK, "read() of t400;t1", 0, x -> Watches.read(x, "t400;t1"));
        WatchBeats x = Watches.atClock(99590);
        Check.due("those are done that end at 99999", Watches.read(x, "t10;t400;t399;t1"), 2);
        Check.due("CLOCK", x.told(8), 99999);
    }

    private static void wheelsOfClauses() {
        Check.sentence("1 THE BALANCE", "w N (a WHEEL comes)");
        WatchBeats x = Watches.scripted();
        x.go(1);
        Check.due("a fifth is refused", Watches.read(x, "w2;w99;w3;w98;w5"), 4);
        Check.due("WHEELS", x.told(12), 4);
        Check.due("TEETH of them", x.turns(3, 1), 2L * 2 * 99 * 3 * 98);
        for (int n : new int[] {1, 100, 0, -2, -999, 999}) {
            for (Start start : Start.values()) {
                Still.refusedBy(start + ": read() of w" + n, () -> withoutText(start), 0,
                    y -> Watches.read(y, "w" + n));
            }
        }
        Still.refusedBy("a fifth", () -> withoutText(Start.FULL), 0, y -> Watches.read(y, "w2"));
    }

    private static void tenLessTheFault() {
        Check.sentence("Promise 11", "-10 less the FAULT");
        Check.due("the least FAULT", Watches.read(new WatchBeats(), "q"), -10);
        Check.due("the next", Watches.read(new WatchBeats(), "aq"), -11);
        Check.due("the greatest", Watches.read(new WatchBeats(), Start.LONGEST_TEXT + ";"), -81);
    }
}
