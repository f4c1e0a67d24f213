/** Promises 18 and 19: what is seen, and the stiffness by which the watch goes so. */
public final class SeenTest {
    public static void main(String[] args) {
        seenTaken();
        ticksRefused();
        angleRefused();
        fiveSeen();
        badAheadOfFull();
        noneThen();
        allWithoutAny();
        now();
        lastTick();
        stiffUpTo32();
        stiffDownTo1();
        forAllSeen();
        noneFits();
        asByHand();
        pushedLater();
        whatRefused();
        Check.end();
    }

    private static void fitsDue(String when, WatchBeats x, int many, int least) {
        Check.due(when + ": fits(0)", x.fits(0), many);
        Check.due(when + ": fits(1)", x.fits(1), least);
    }

    private static void seenTaken() {
        Check.sentence("2", "SEEN told by hand: n (0 .. 400), an ANGLE (-300 .. 300; 5 rows at most)");
        for (int n : Values.atBounds(0, 400)) {
            for (int angle : Values.atBounds(-300, 300)) {
                WatchBeats x = new WatchBeats();
                Check.due("see(" + n + ", " + angle + ")", x.see(n, angle), 1);
                Check.due("count(0)", x.count(0), 1);
                fitsDue("a new watch is at 0 for good", x, 0, -5);
            }
        }
        WatchBeats x = new WatchBeats();
        Check.due("twice the same", x.see(400, 0) + x.see(400, 0), 3);
        fitsDue("that it is at 0", x, 32, 1);
    }

    private static void ticksRefused() {
        Check.sentence("Promise 18", "BAD: n");
        for (int n : Values.outside(-1, 400)) {
            Still.refused("see(" + n + ", 0)", WatchBeats.BAD, x -> x.see(n, 0));
            Still.refused("see(" + n + ", 301)", WatchBeats.BAD, x -> x.see(n, 301));
        }
    }

    private static void angleRefused() {
        Check.sentence("Promise 18", "BAD: n, angle");
        for (int angle : Values.outside(-300, 300)) {
            for (int n : Values.atBounds(0, 400)) {
                Still.refused("see(" + n + ", " + angle + ")", WatchBeats.BAD, x -> x.see(n, angle));
            }
        }
    }

    private static void fiveSeen() {
        Check.sentence("Promise 18", "FULL: 5.");
        WatchBeats x = new WatchBeats();
        for (int i = 1; i <= 5; i++) {
            Check.due("see", x.see(i, i), i);
        }
        Check.due("a sixth", x.see(0, 0), WatchBeats.FULL);
        Check.due("five", x.count(0), 5);
        for (int n : Values.atBounds(0, 400)) {
            Still.refusedIn(Start.FULL, "see(" + n + ", 299)", WatchBeats.FULL, y -> y.see(n, 299));
        }
    }

    private static void badAheadOfFull() {
        Check.sentence("Promise 18", "BAD: n, angle; FULL: 5.");
        Still.refusedIn(Start.FULL, "see(0, 301)", WatchBeats.BAD, x -> x.see(0, 301));
        Still.refusedIn(Start.FULL, "see(401, 0)", WatchBeats.BAD, x -> x.see(401, 0));
        Still.refusedIn(Start.FULL, "see(-2, 0)", WatchBeats.BAD, x -> x.see(-2, 0));
    }

    private static void noneThen() {
        Check.sentence("Promise 18", "(n -1: none then, 0, whatever the rest is)");
        for (int angle : new int[] {0, -300, 300, -301, 301, Integer.MIN_VALUE, Integer.MAX_VALUE}) {
            for (Start start : Start.values()) {
                WatchBeats x = start.watch();
                Check.due(start + ": see(-1, " + angle + ")", x.see(-1, angle), 0);
                Check.due("count(0)", x.count(0), 0);
                fitsDue("without any", x, 32, 1);
                Check.due("the first again", x.see(400, 300), 1);
                Check.due("the BOOK stays", x.count(1), start.watch().count(1));
            }
        }
    }

    private static void allWithoutAny() {
        Check.sentence("2", "for all of SEEN (all 32 without any)");
        for (Start start : new Start[] {Start.NEW, Start.BUSY}) {
            WatchBeats x = start.watch();
            x.see(-1, 0);
            fitsDue(start.toString(), x, 32, 1);
        }
    }

    private static void now() {
        Check.sentence("2", "n (0 .. 400), an ANGLE");
        WatchBeats x = Watches.watch(32, 400, 1, 0, 0, 60);
        x.see(0, 32);
        fitsDue("0 TICKS on it is where it is", x, 32, 1);
        x.see(0, 31);
        fitsDue("nowhere else", x, 0, -5);
    }

    private static void lastTick() {
        Check.sentence("2", "ANGLE n TICKS on were so");
        WatchBeats x = Watches.idle();
        x.push(399, 0, 7);
        x.see(399, 0);
        x.see(400, 7);
        fitsDue("399 and 400 TICKS on", x, 32, 1);
        WatchBeats y = Watches.idle();
        y.push(399, 0, 7);
        y.see(400, 0);
        fitsDue("it isn't so 400 TICKS on", y, 0, -5);
        WatchBeats last = Watches.atLastClock();
        last.push(99999, 0, 7);
        last.see(1, 7);
        last.see(2, 14);
        fitsDue("beyond CLOCK's end, where 7 times 1 .. 4 by 32 is 0", last, 4, 1);
    }

    private static void stiffUpTo32() {
        Check.sentence("2",
            "FITS: how many STIFF 1 .. 32 there are by which, were it that now, ANGLE n TICKS on were so");
        WatchBeats x = Watches.idle();
        x.set(0, 2);
        x.see(1, 0);
        fitsDue("2 times 32 by 32 is 2", x, 1, 32);
        x.see(-1, 0);
        x.set(0, 32);
        x.see(1, 0);
        fitsDue("32 times 32 by 32 is 32", x, 1, 32);
        x.see(-1, 0);
        x.see(1, -1);
        fitsDue("33 would be", x, 0, -5);
    }

    private static void stiffDownTo1() {
        Check.sentence("2", "STIFF 1 .. 32");
        WatchBeats x = Watches.idle();
        x.set(0, 32);
        x.set(2, 9);
        x.see(1, 31);
        fitsDue("32 times 1 by 32 is 1", x, 1, 1);
        x.see(-1, 0);
        x.see(1, 32);
        fitsDue("0 would be", x, 0, -5);
        Check.due("STIFF is as it was", x.told(2), 9);
    }

    private static void forAllSeen() {
        Check.sentence("2", "for all of SEEN");
        WatchBeats x = Watches.idle();
        x.set(0, 2);
        x.see(1, 1);
        fitsDue("2 times 16 .. 31 by 32 is 1", x, 16, 16);
        x.see(2, 0);
        fitsDue("and so again by 1 times 16 .. 31, which is 0", x, 16, 16);
        x.see(0, 2);
        fitsDue("told in any order", x, 16, 16);
        x.see(3, -1);
        fitsDue("and on", x, 16, 16);
        x.see(4, -3);
        fitsDue("the fifth isn't so", x, 0, -5);
    }

    private static void noneFits() {
        Check.sentence("2", "the least (-5: none)");
        WatchBeats x = Watches.idle();
        x.see(0, 1);
        fitsDue("not where it is", x, 0, -5);
        x.see(-1, 0);
        x.set(0, 2);
        x.see(1, 1);
        x.see(1, 0);
        fitsDue("two rows against one another", x, 0, -5);
    }

    private static WatchBeats pushed(int stiff) {
        WatchBeats x = Watches.lively();
        x.go(5);
        x.push(20, 0, 30);
        x.push(22, 2, -9);
        x.set(2, stiff);
        return x;
    }

    private static void asByHand() {
        Check.sentence("2", "how many STIFF 1 .. 32 there are by which, were it that now");
        for (int stiff = 1; stiff <= 32; stiff++) {
            int angle = pushed(stiff).ahead(30, 0);
            int later = pushed(stiff).ahead(400, 0);
            int many = 0;
            int least = -5;
            for (int tried = 32; tried >= 1; tried--) {
                if (pushed(tried).ahead(30, 0) == angle && pushed(tried).ahead(400, 0) == later) {
                    many++;
                    least = tried;
                }
            }
            WatchBeats x = pushed(1);
            x.see(400, later);
            x.see(30, angle);
            fitsDue("as seen with " + stiff, x, many, least);
        }
    }

    private static void pushedLater() {
        Check.sentence("2", "STIFF, SPEED that is tried is so from now on (PUSHES may change it later)");
        WatchBeats x = Watches.idle();
        x.set(0, 32);
        x.push(1, 0, 99);
        x.see(1, 22);
        // SPEED is -10 and 99, less 22 times 10 by 32.
        x.see(2, 22 + 83);
        fitsDue("a STIFF of 10, and a PUSH", x, 1, 10);
    }

    private static void whatRefused() {
        Check.sentence("Promise 19", "NONE.");
        for (int what : Values.outside(0, 1)) {
            Still.refused("fits(" + what + ")", WatchBeats.NONE, x -> x.fits(what));
        }
        WatchBeats none = Watches.idle();
        none.see(0, 1);
        for (int what : Values.outside(0, 1)) {
            Check.due("where none fits: fits(" + what + ")", none.fits(what), WatchBeats.NONE);
        }
    }
}
