/** Promises 14 to 17: beats heard, and the gaps between them. */
public final class HeardTest {
    private static final int[] GAPS = {1, 1, 2, 4};

    public static void main(String[] args) {
        beatsHeard();
        firstAndLastTick();
        fromNow();
        notSoManyBeats();
        beatRefused();
        whatOfBeat();
        noBeatAtAll();
        gapsButTheFirst();
        notSoManyGaps();
        gapRefused();
        unevenInTwos();
        unevenSigned();
        greatestFirst();
        earlierAhead();
        notSoManyLongest();
        longestRefused();
        longestWhatRefused();
        whatAheadOfMissing();
        Check.end();
    }

    private static void beatsHeard() {
        Check.sentence("Promise 14", "The k-th (from 0) BEAT HEARD");
        int[] beats = Watches.SCRIPTED_BEATS;
        for (int k = 0; k < beats.length; k++) {
            Check.due("heard(" + k + "), the first thing asked", Watches.scripted().heard(k), beats[k]);
        }
        WatchBeats many = Watches.quick(60, 99);
        for (int k = 0; k < 132; k++) {
            Check.due("heard(" + k + ") of 132", many.heard(k), 4 + 3 * k);
        }
        Check.due("heard(132) of 132", many.heard(132), -5);
    }

    /** A watch at rest that goes from 0 to 1 in one TICK and rests there. */
    private static WatchBeats beatAt(int n) {
        WatchBeats x = Watches.idle();
        x.set(3, 9);
        x.set(5, 1);
        x.push(n, 0, 10);
        return x;
    }

    private static void firstAndLastTick() {
        Check.sentence("2", "HEARD: BEATS of the next 400 TICKS");
        Check.due("a BEAT in the first TICK", beatAt(0).heard(0), 0);
        Check.due("a BEAT in the 399th TICK", beatAt(398).heard(0), 398);
        Check.due("a BEAT in the 400th TICK", beatAt(399).heard(0), 399);
        Check.due("it is the last", beatAt(399).beat(4), 399);
        Check.due("one more than the next 400", beatAt(400).heard(0), -5);
        Check.due("it isn't counted", beatAt(400).beat(0), 0);
        WatchBeats x = beatAt(400);
        x.go(1);
        Check.due("a TICK later it is", x.heard(0), 399);
    }

    private static void fromNow() {
        Check.sentence("2", "(CLOCK of the BEAT less CLOCK now)");
        WatchBeats x = Watches.scripted();
        x.go(3);
        Check.due("heard(0)", x.heard(0), 1);
        Check.due("heard(1)", x.heard(1), 5);
        Check.due("heard(2)", x.heard(2), -5);
        WatchBeats last = Watches.atLastClock();
        last.set(5, 1);
        last.push(99999, 0, 1);
        Check.due("at the last CLOCK", last.heard(0), 0);
    }

    private static void notSoManyBeats() {
        Check.sentence("Promise 14", "-5: there are not so many");
        for (int k : new int[] {5, 6, 399, 400, 401, Integer.MAX_VALUE - 1, Integer.MAX_VALUE}) {
            Check.due("heard(" + k + ")", Watches.scripted().heard(k), -5);
            Check.due("still: heard(" + k + ")", Watches.idle().heard(k), -5);
        }
        Check.due("of none the first", Watches.idle().heard(0), -5);
    }

    private static void beatRefused() {
        Check.sentence("Promise 14", "NONE: k is below 0.");
        for (int k : new int[] {-1, -2, -5, -400, Integer.MIN_VALUE + 1, Integer.MIN_VALUE}) {
            Still.refused("heard(" + k + ")", WatchBeats.NONE, x -> x.heard(k));
        }
    }

    private static void beatDue(String when, WatchBeats x, int... want) {
        int[] whats = {0, 1, 2, 4};
        for (int i = 0; i < whats.length; i++) {
            Check.due(when + ": beat(" + whats[i] + ")", x.beat(whats[i]), want[i]);
        }
    }

    private static void whatOfBeat() {
        Check.sentence("Promise 15", "-1000.");
        for (int what : Values.outside(0, 4)) {
            Still.refused("beat(" + what + ")", -1000, x -> x.beat(what));
        }
        Check.due("the last what", Watches.scripted().beat(4), 8);
        Check.due("the first what", Watches.scripted().beat(0), 5);
    }

    private static void noBeatAtAll() {
        Check.sentence("Promise 15", "4 the last BEAT HEARD (-500: none)");
        beatDue("none", Watches.idle(), 0, 0, 0, -500);
        beatDue("one, at 0", beatAt(0), 1, 0, 0, 0);
        beatDue("one, at 399", beatAt(399), 1, 0, 0, 399);
        beatDue("one, too late", beatAt(400), 0, 0, 0, -500);
        beatDue("one and others", Watches.quick(60, 99), 132, 131, 0, 397);
    }

    private static void gapsButTheFirst() {
        Check.sentence("2", "GAPS: of each BEAT HEARD but the first how much later than the one ahead (GAP 0, 1, ..)");
        for (int k = 0; k < GAPS.length; k++) {
            Check.due("gap(" + k + "), the first thing asked", Watches.scripted().gap(k), GAPS[k]);
        }
        WatchBeats many = Watches.quick(60, 99);
        Check.due("the first of 131", many.gap(0), 3);
        Check.due("the last of 131", many.gap(130), 3);
        Check.due("none behind", many.gap(131), -5);
    }

    private static void notSoManyGaps() {
        Check.sentence("Promise 16", "The k-th (from 0) GAP; -5.");
        for (int k : new int[] {4, 5, 399, 400, Integer.MAX_VALUE - 1, Integer.MAX_VALUE}) {
            Check.due("gap(" + k + ")", Watches.scripted().gap(k), -5);
            Check.due("no BEAT: gap(" + k + ")", Watches.idle().gap(k), -5);
        }
        Check.due("of no BEAT", Watches.idle().gap(0), -5);
        Check.due("of one BEAT", beatAt(7).gap(0), -5);
    }

    private static void gapRefused() {
        Check.sentence("Promise 16", "NONE: k is below 0.");
        for (int k : new int[] {-1, -2, -5, -400, Integer.MIN_VALUE + 1, Integer.MIN_VALUE}) {
            Still.refused("gap(" + k + ")", WatchBeats.NONE, x -> x.gap(k));
        }
    }

    private static void unevenInTwos() {
        Check.sentence("2", "of as many as there are in twos (a last one without another isn't counted)");
        WatchBeats x = Watches.scripted();
        beatDue("gaps 1, 1, 2, 4", x, 5, 4, -2, 8);
        x.go(1);
        beatDue("gaps 1, 2, 4", x, 4, 3, -1, 7);
        x.go(1);
        beatDue("gaps 2, 4", x, 3, 2, -2, 6);
        x.go(1);
        beatDue("gap 4", x, 2, 1, 0, 5);
        x.go(2);
        beatDue("no gap", x, 1, 0, 0, 3);
        x.go(4);
        beatDue("no BEAT", x, 0, 0, 0, -500);
    }

    private static void unevenSigned() {
        Check.sentence("2", "UNEVEN: GAPS 0, 2, 4 .. less GAPS 1, 3, 5 .., together");
        // BEATS at 0, 7, 9: the watch moves by 5 in a TICK and rests until the next PUSH.
        WatchBeats x = Watches.idle();
        x.set(3, 9);
        x.set(5, 1);
        x.push(0, 0, 14);
        x.push(7, 0, -15);
        x.push(9, 0, 14);
        beatDue("gaps 7, 2", x, 3, 2, 5, 9);
    }

    private static void longestDue(WatchBeats x, int k, int length, int gap) {
        Check.due("longest(" + k + ", 0)", x.longest(k, 0), length);
        Check.due("longest(" + k + ", 1)", x.longest(k, 1), gap);
    }

    private static void greatestFirst() {
        Check.sentence("2", "LONGEST, the k-th: of GAPS the greatest first");
        longestDue(Watches.scripted(), 0, 4, 3);
        longestDue(Watches.scripted(), 1, 2, 2);
        WatchBeats x = Watches.lively();
        int gaps = x.beat(1);
        Check.holds("there are some", gaps > 9);
        for (int k = 0; k + 1 < gaps; k++) {
            int here = x.longest(k, 0);
            int next = x.longest(k + 1, 0);
            boolean ordered = here > next || here == next && x.longest(k, 1) < x.longest(k + 1, 1);
            Check.holds("longest in order at " + k, ordered);
            Check.due("how long it is", here, x.gap(x.longest(k, 1)));
        }
    }

    private static void earlierAhead() {
        Check.sentence("2", "of several the earlier one ahead");
        longestDue(Watches.scripted(), 2, 1, 0);
        longestDue(Watches.scripted(), 3, 1, 1);
        WatchBeats alike = Watches.quick(60, 99);
        for (int k : new int[] {0, 1, 64, 65, 129, 130}) {
            longestDue(alike, k, 3, k);
        }
    }

    private static void notSoManyLongest() {
        Check.sentence("Promise 17", "which GAP it is (1); -5.");
        for (int k : new int[] {4, 5, 399, 400, Integer.MAX_VALUE - 1, Integer.MAX_VALUE}) {
            longestDue(Watches.scripted(), k, -5, -5);
            longestDue(Watches.idle(), k, -5, -5);
        }
        longestDue(Watches.idle(), 0, -5, -5);
        longestDue(beatAt(7), 0, -5, -5);
        longestDue(Watches.quick(60, 99), 131, -5, -5);
    }

    private static void longestRefused() {
        Check.sentence("Promise 17", "NONE: k is below 0, what.");
        for (int k : new int[] {-1, -2, -5, -400, Integer.MIN_VALUE + 1, Integer.MIN_VALUE}) {
            Still.refused("longest(" + k + ", 0)", WatchBeats.NONE, x -> x.longest(k, 0));
            Still.refused("longest(" + k + ", 1)", WatchBeats.NONE, x -> x.longest(k, 1));
        }
    }

    private static void longestWhatRefused() {
        Check.sentence("Promise 17", "k is below 0, what.");
        for (int what : Values.outside(0, 1)) {
            Still.refused("longest(0, " + what + ")", WatchBeats.NONE, x -> x.longest(0, what));
            Still.refused("longest(-1, " + what + ")", WatchBeats.NONE, x -> x.longest(-1, what));
        }
    }

    private static void whatAheadOfMissing() {
        Check.sentence("Answers", "NONE (-1) no such number");
        for (int what : Values.outside(0, 1)) {
            Still.refused("longest(400, " + what + ")", WatchBeats.NONE, x -> x.longest(400, what));
            Still.refused("longest(max, " + what + ")", WatchBeats.NONE, x -> x.longest(Integer.MAX_VALUE, what));
        }
    }
}
