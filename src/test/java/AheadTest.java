/** Promises 12 to 17: what lies ahead, beats heard and the gaps between them. */
public final class AheadTest {
    private static final int[] TOLD_AHEAD = {0, 1, 5, 9, 10, 7};
    private static final int[] NO_NUMBERS = {Integer.MIN_VALUE, -1};

    public static void main(String[] args) {
        promise12And13();
        promise14();
        promise15();
        promise15Evenest();
        promise15EvenestTies();
        promise16And17();
        askedChangesNothing();
        Check.end();
    }

    private static WatchBeats pushed() {
        WatchBeats x = Watches.lively();
        x.go(30);
        x.push(33, 0, -25);
        x.push(33, 1, 27);
        x.push(31, 2, -20);
        x.push(300, 3, 9);
        return x;
    }

    private static void promise12And13() {
        for (int n = 0; n <= 400; n += 7) {
            WatchBeats x = pushed();
            WatchBeats went = pushed();
            if (n > 0) {
                went.go(n);
            }
            for (int what = 0; what < TOLD_AHEAD.length; what++) {
                Check.due("ahead(" + n + ", " + what + ")", x.ahead(n, what), went.told(TOLD_AHEAD[what]));
            }
            Check.due("energyAt(" + n + ")", x.energyAt(n), went.energy(4));
        }
        WatchBeats x = pushed();
        WatchBeats went = pushed();
        went.go(400);
        Check.due("ahead(400, 0)", x.ahead(400, 0), went.told(0));
        for (int n : new int[] {-1, 401, Integer.MIN_VALUE, Integer.MAX_VALUE}) {
            Check.due("ahead of no such n", x.ahead(n, 0), -1000);
            Check.due("energyAt of no such n", x.energyAt(n), Watches.NO);
        }
        for (int what : new int[] {-1, 6, Integer.MIN_VALUE, Integer.MAX_VALUE}) {
            Check.due("ahead of no such what", x.ahead(0, what), -1000);
        }
        WatchBeats banging = new WatchBeats();
        banging.set(1, 400);
        Check.due("bangs ahead", banging.ahead(1, 4), 1);
        Check.due("beats ahead", banging.ahead(1, 3), 1);
        Check.due("pallets ahead", banging.ahead(1, 5), 1);
        Check.due("no bang now", banging.ahead(0, 4), 0);
    }

    private static void promise14() {
        WatchBeats x = Watches.scripted();
        int[] beats = Watches.SCRIPTED_BEATS;
        for (int k = 0; k < beats.length; k++) {
            Check.due("heard(" + k + ")", x.heard(k), beats[k]);
        }
        Check.due("heard behind the last", x.heard(5), -5);
        Check.due("heard far behind the last", x.heard(Integer.MAX_VALUE), -5);
        for (int k : NO_NUMBERS) {
            Check.due("heard of no such k", x.heard(k), WatchBeats.NONE);
        }
        x.go(3);
        Check.due("heard is told from now on", x.heard(0), 1);
        Check.due("heard is told from now on", x.heard(1), 5);
        Check.due("heard is told from now on", x.heard(2), -5);
        // The watch moves by 1 a tick over 400 ticks: the last tick that is heard is the 400th.
        WatchBeats far = Watches.idle();
        far.push(399, 0, 1);
        far.set(5, 1);
        Check.due("a beat in the 400th tick", far.heard(0), 399);
        WatchBeats farther = Watches.idle();
        farther.push(400, 0, 1);
        farther.set(5, 1);
        Check.due("none in the 401st tick", farther.heard(0), -5);
    }

    private static void beatDue(String when, WatchBeats x, int... want) {
        int[] whats = {0, 1, 2, 4};
        for (int i = 0; i < whats.length; i++) {
            Check.due(when + ": beat(" + whats[i] + ")", x.beat(whats[i]), want[i]);
        }
    }

    private static void promise15() {
        WatchBeats x = Watches.scripted();
        beatDue("script", x, 5, 4, -2, 8);
        x.go(1);
        beatDue("four beats, three gaps", x, 4, 3, -1, 7);
        x.go(1);
        beatDue("three beats, two gaps", x, 3, 2, -2, 6);
        x.go(1);
        beatDue("two beats, one gap", x, 2, 1, 0, 5);
        x.go(2);
        beatDue("one beat, no gap", x, 1, 0, 0, 3);
        x.go(4);
        beatDue("no beat", x, 0, 0, 0, -500);
        for (int what : new int[] {-1, 5, Integer.MIN_VALUE, Integer.MAX_VALUE}) {
            Check.due("beat of no such what", x.beat(what), -1000);
        }
    }

    private static int evenestByHand(WatchBeats x, int offsetNow) {
        int best = 0;
        int[] bestOf = null;
        for (int offset = -20; offset <= 20; offset++) {
            x.set(4, offset);
            int[] of = {-x.beat(0), Math.abs(x.beat(2)), Math.abs(offset - offsetNow)};
            if (bestOf == null || java.util.Arrays.compare(of, bestOf) < 0) {
                best = offset;
                bestOf = of;
            }
        }
        x.set(4, offsetNow);
        return best;
    }

    private static void promise15Evenest() {
        for (int offset = -20; offset <= 20; offset += 5) {
            for (int stiff = 1; stiff <= 32; stiff += 5) {
                WatchBeats x = Watches.lively();
                x.set(4, offset);
                x.set(2, stiff);
                Check.due("evenest", x.beat(3), evenestByHand(x, offset));
                x.set(6, 99);
                x.set(5, 60);
                Check.due("evenest with a strong spring", x.beat(3), evenestByHand(x, offset));
            }
        }
    }

    private static void promise15EvenestTies() {
        WatchBeats still = Watches.idle();
        still.set(4, -13);
        Check.due("all alike: OFFSET as it is", still.beat(3), -13);
        // It comes from 0 to 13 and rests there: one beat by each OFFSET from 0 to 12, of these the nearest.
        WatchBeats x = Watches.idle();
        x.set(5, 1);
        x.set(1, 20);
        x.set(3, 9);
        x.set(4, -20);
        Check.due("a beat only with OFFSET 0 or more", x.beat(3), 0);
        WatchBeats pushed = Watches.idle();
        pushed.set(4, 11);
        pushed.push(0, 2, 3);
        Check.due("a push makes all OFFSETS alike", pushed.beat(3), 11);
        WatchBeats once = Watches.scripted();
        Check.due("evenest of the script", once.beat(3), evenestByHand(once, 0));
        Check.due("an OFFSET of 21 isn't tried", movedOnce(21, 1).beat(3), 5);
        Check.due("an OFFSET of 20 is", movedOnce(20, 1).beat(3), 20);
        Check.due("an OFFSET of -21 isn't tried", movedOnce(-22, 2).beat(3), 5);
        Check.due("an OFFSET of -20 is", movedOnce(-21, 2).beat(3), -20);
        promise15EvenestLesser();
    }

    private static WatchBeats movedOnce(int angle, int by) {
        WatchBeats x = Watches.idle();
        x.set(0, angle);
        x.set(1, by + 9);
        x.set(3, 9);
        x.set(4, 5);
        x.set(5, 1);
        return x;
    }

    /** From -2 to 0, to -2, to 2, to 0, to 2: three even beats by OFFSETS -1 and 1 alone. */
    private static void promise15EvenestLesser() {
        WatchBeats x = Watches.idle();
        x.set(0, -2);
        x.set(3, 9);
        x.set(5, 1);
        int[] pushes = {11, -11, 13, -11, 11};
        for (int i = 0; i < pushes.length; i++) {
            x.push(2 * i, 0, pushes[i]);
        }
        Check.due("of two as near the lesser", x.beat(3), -1);
        x.set(4, 1);
        beatDue("by OFFSET 1", x, 3, 2, 0, 8);
        Check.due("of two the nearer", x.beat(3), 1);
        x.set(4, -1);
        beatDue("by OFFSET -1", x, 3, 2, 0, 4);
        Check.due("of two the nearer", x.beat(3), -1);
    }

    private static void promise16And17() {
        WatchBeats x = Watches.scripted();
        int[] gaps = {1, 1, 2, 4};
        int[] longest = {3, 2, 0, 1};
        for (int k = 0; k < gaps.length; k++) {
            Check.due("gap(" + k + ")", x.gap(k), gaps[k]);
            Check.due("longest(" + k + ", 1)", x.longest(k, 1), longest[k]);
            Check.due("longest(" + k + ", 0)", x.longest(k, 0), gaps[longest[k]]);
        }
        for (int k : new int[] {4, 5, 400, Integer.MAX_VALUE}) {
            Check.due("gap behind the last", x.gap(k), -5);
            Check.due("longest behind the last", x.longest(k, 0), -5);
            Check.due("which is longest behind the last", x.longest(k, 1), -5);
        }
        for (int no : NO_NUMBERS) {
            Check.due("gap of no such k", x.gap(no), WatchBeats.NONE);
            Check.due("longest of no such k", x.longest(no, 0), WatchBeats.NONE);
            Check.due("longest of no such what", x.longest(0, no), WatchBeats.NONE);
        }
        Check.due("longest of what 2", x.longest(0, 2), WatchBeats.NONE);
        Check.due("what goes ahead of k", x.longest(9, 2), WatchBeats.NONE);
        Check.due("longest, the first thing asked", Watches.scripted().longest(0, 0), 4);
        Check.due("gap, the first thing asked", Watches.scripted().gap(3), 4);
        WatchBeats still = Watches.idle();
        Check.due("no gap", still.gap(0), -5);
        Check.due("no longest", still.longest(0, 1), -5);
        longestOfMany();
    }

    private static void longestOfMany() {
        WatchBeats x = Watches.lively();
        int gaps = x.beat(1);
        for (int k = 0; k + 1 < gaps; k++) {
            int here = x.longest(k, 0);
            int next = x.longest(k + 1, 0);
            boolean ordered = here > next || here == next && x.longest(k, 1) < x.longest(k + 1, 1);
            Check.holds("longest in order at " + k, ordered);
        }
    }

    private static void askedChangesNothing() {
        WatchBeats x = pushed();
        x.see(5, 9);
        x.book(1, 9);
        x.tape(0, 1, 9);
        long[] before = Watches.allOf(x);
        x.ahead(400, 0);
        x.energyAt(400);
        x.heard(0);
        for (int what = 0; what < 5; what++) {
            x.beat(what);
        }
        x.gap(0);
        x.longest(0, 0);
        x.fits(0);
        x.odds(3, 0);
        x.mean(0);
        x.looked();
        x.judge(0, 0);
        Watches.sameDue("asked", Watches.allOf(x), before);
    }
}
