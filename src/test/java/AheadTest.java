import java.util.function.Supplier;

/** Promises 12 and 13, and that what is asked changes nothing. */
public final class AheadTest {
    private static final int[] TOLD_AHEAD = {0, 1, 5, 9, 10, 7};

    public static void main(String[] args) {
        ticksTaken();
        ticksRefused();
        whatRefused();
        energyTicksRefused();
        noTickAtZero();
        beyondTheClock();
        pushesAsTheyWait();
        forceWearsInThought();
        bangsAndBeatsInThought();
        asked();
        Check.end();
    }

    private static WatchBeats pushed() {
        WatchBeats x = Watches.lively();
        x.go(30);
        x.push(33, 0, -25);
        x.push(33, 1, 27);
        x.push(31, 2, -20);
        x.push(300, 3, 9);
        return x;
    }

    private static void asGone(String when, Supplier<WatchBeats> watch, int n) {
        WatchBeats went = watch.get();
        if (n > 0) {
            Check.holds("so many TICKS go by truly", went.go(n) >= 0);
        }
        WatchBeats x = watch.get();
        for (int what = 0; what < TOLD_AHEAD.length; what++) {
            Check.due(when + "ahead(" + n + ", " + what + ")", x.ahead(n, what), went.told(TOLD_AHEAD[what]));
        }
        Check.due(when + "energyAt(" + n + ")", x.energyAt(n), went.energy(4));
    }

    private static void ticksTaken() {
        Check.sentence("2", "n TICKS (0 .. 400) in thought go on from now");
        for (int n : Values.atBounds(0, 400)) {
            asGone("", AheadTest::pushed, n);
            asGone("new: ", Start.NEW::watch, n);
            asGone("busy: ", Start.BUSY::watch, n);
            asGone("full: ", Start.FULL::watch, n);
        }
        for (int n = 2; n < 399; n += 6) {
            asGone("", AheadTest::pushed, n);
        }
    }

    private static void ticksRefused() {
        Check.sentence("Promise 12", "-1000: n");
        for (int n : Values.outside(0, 400)) {
            for (int what = 0; what <= 5; what++) {
                int asked = what;
                Still.refused("ahead(" + n + ", " + what + ")", -1000, x -> x.ahead(n, asked));
            }
        }
    }

    private static void whatRefused() {
        Check.sentence("Promise 12", "-1000: n, what.");
        for (int what : Values.outside(0, 5)) {
            Still.refused("ahead(0, " + what + ")", -1000, x -> x.ahead(0, what));
            Still.refused("ahead(400, " + what + ")", -1000, x -> x.ahead(400, what));
        }
    }

    private static void energyTicksRefused() {
        Check.sentence("Promise 13", "NO.");
        for (int n : Values.outside(0, 400)) {
            Still.refused("energyAt(" + n + ")", WatchBeats.NO, x -> x.energyAt(n));
        }
    }

    private static void noTickAtZero() {
        Check.sentence("Promise 12",
            "n TICKS on ANGLE (what 0), SPEED (1), FORCE (2), BEATS (3), BANGS (4), PALLETS (5)");
        WatchBeats x = Watches.watch(-300, -400, 32, 9, 20, 60);
        x.push(0, 0, 99);
        int[] now = {-300, -400, 60, 0, 0, 0};
        // SPEED is -301 by the PUSH, -1 by the pull, 0 by the DRAG.
        int[] next = {-300, 0, 60, 0, 0, 0};
        for (int what = 0; what <= 5; what++) {
            Check.due("ahead(0, " + what + ")", x.ahead(0, what), now[what]);
            Check.due("ahead(1, " + what + ")", x.ahead(1, what), next[what]);
        }
        Check.due("energyAt(0)", x.energyAt(0), 32L * 400 * 400 + 32L * 300 * 300);
        Check.due("energyAt(1)", x.energyAt(1), 32L * 300 * 300);
    }

    private static void beyondTheClock() {
        Check.sentence("2", "(CLOCK beyond 99999, too)");
        WatchBeats x = Watches.atLastClock();
        x.set(1, 1);
        x.push(99999, 0, 4);
        Check.due("in thought it goes on", x.ahead(1, 0), 5);
        Check.due("and on", x.ahead(6, 0), 30);
        Check.due("ENERGY there", x.energyAt(6), 32 * 25 + 30 * 30);
        x.set(0, 1);
        x.set(1, -4);
        x.set(2, 32);
        x.set(5, 60);
        Check.due("400 TICKS as at any CLOCK", x.ahead(400, 0), sameAtClockZero().ahead(400, 0));
        Check.due("BEATS as at any CLOCK", x.ahead(400, 3), sameAtClockZero().ahead(400, 3));
        Check.due("BEATS HEARD as at any CLOCK", x.beat(4), sameAtClockZero().beat(4));
        Check.holds("and there are such", x.beat(4) > 300);
    }

    private static WatchBeats sameAtClockZero() {
        WatchBeats x = Watches.watch(1, -4, 32, 0, 0, 60);
        x.push(0, 0, 4);
        return x;
    }

    private static void pushesAsTheyWait() {
        Check.sentence("2", "PUSHES as they wait");
        WatchBeats x = Watches.idle();
        x.push(3, 0, 7);
        x.push(5, 0, -9);
        x.push(400, 0, 7);
        int[][] ways = {{3, 0, 0}, {4, 7, 7}, {5, 7, 14}, {6, -2, 12}, {7, -2, 10}};
        for (int[] row : ways) {
            Check.due("ahead(" + row[0] + ", 1)", x.ahead(row[0], 1), row[1]);
            Check.due("ahead(" + row[0] + ", 0)", x.ahead(row[0], 0), row[2]);
        }
        Check.due("they wait still", x.told(11), 3);
        x.go(4);
        Check.due("two of them wait", x.ahead(1, 1), 7);
        Check.due("the first of them", x.ahead(2, 1), -2);
        WatchBeats y = Watches.idle();
        y.push(399, 0, 7);
        Check.due("399 TICKS on", y.ahead(399, 1), 0);
        Check.due("a PUSH in the 400th TICK", y.ahead(400, 1), 7);
        WatchBeats z = Watches.idle();
        z.push(400, 0, 7);
        Check.due("none in it", z.ahead(400, 1), 0);
    }

    private static void forceWearsInThought() {
        Check.sentence("Promise 12", "FORCE (2)");
        WatchBeats x = Watches.quick(2, 2);
        int[][] forces = {{7, 2}, {8, 1}, {13, 1}, {14, 0}, {400, 0}};
        for (int[] row : forces) {
            Check.due("ahead(" + row[0] + ", 2)", x.ahead(row[0], 2), row[1]);
        }
        Check.due("FORCE now", x.told(5), 2);
    }

    private static void bangsAndBeatsInThought() {
        Check.sentence("Promise 12", "BEATS (3), BANGS (4), PALLETS (5)");
        WatchBeats x = new WatchBeats();
        x.set(1, 400);
        int[] next = {300, 5, 20, 1, 1, 1};
        for (int what = 0; what <= 5; what++) {
            Check.due("ahead(1, " + what + ")", x.ahead(1, what), next[what]);
        }
        Check.due("energyAt(1)", x.energyAt(1), 32 * 25 + 4 * 90000);
        x.go(1);
        x.set(1, -400);
        x.set(0, 0);
        int[] behind = {-300, -5, 20, 2, 2, 0};
        for (int what = 0; what <= 5; what++) {
            Check.due("ahead(1, " + what + ")", x.ahead(1, what), behind[what]);
        }
    }

    private static void asked() {
        Check.sentence("Answers", "what is asked changes nothing");
        for (int n : Values.atBounds(0, 400)) {
            Still.asked("ahead(" + n + ", 0)", x -> x.ahead(n, 0));
            Still.asked("energyAt(" + n + ")", x -> x.energyAt(n));
        }
        for (int k : new int[] {0, 1, 399, Integer.MAX_VALUE}) {
            Still.asked("heard(" + k + ")", x -> x.heard(k));
            Still.asked("gap(" + k + ")", x -> x.gap(k));
            Still.asked("longest(" + k + ", 0)", x -> x.longest(k, 0));
            Still.asked("longest(" + k + ", 1)", x -> x.longest(k, 1));
            Still.asked("judge(0, " + k + ")", x -> x.judge(0, k));
            Still.asked("peek(0, " + k + ")", x -> x.peek(0, k));
        }
        for (int what = 0; what <= 12; what++) {
            int of = what;
            Still.asked("told(" + what + ")", x -> x.told(of));
            Still.asked("energy(" + what + ")", x -> x.energy(of));
            Still.asked("beat(" + what + ")", x -> x.beat(of));
            Still.asked("count(" + what + ")", x -> x.count(of));
            Still.asked("pushOf(" + what + ", 0)", x -> x.pushOf(of, 0));
            Still.asked("turns(" + what + ", 0)", x -> x.turns(of, 0));
        }
        for (int part = 0; part <= 1; part++) {
            int of = part;
            Still.asked("fits(" + part + ")", x -> x.fits(of));
            Still.asked("odds(0, " + part + ")", x -> x.odds(0, of));
            Still.asked("odds(99, " + part + ")", x -> x.odds(99, of));
            Still.asked("mean(" + part + ")", x -> x.mean(of));
        }
        Still.asked("looked()", x -> x.looked());
    }
}
