/** Promises 1 to 6 and 9: what is told by hand, the ticks, the pushes, energy and its account. */
public final class BalanceTest {
    private static final int[] LEAST = {-300, -400, 1, 0, -20, 0, 1};
    private static final int[] MOST = {300, 400, 32, 9, 20, 60, 99};
    private static final int[] FIRST = {0, 0, 4, 0, 0, 20, 10};

    public static void main(String[] args) {
        promise1();
        promise2();
        promise3();
        promise4();
        promise5();
        promise6();
        promise6Steps();
        promise6Pushes();
        promise6End();
        promise9();
        Check.end();
    }

    private static void promise1() {
        WatchBeats x = new WatchBeats();
        Watches.toldDue("new", x, 0, 0, 4, 0, 0, 20, 10, 0, 0, 0, 0, 0, 0);
        Watches.energiesDue("new", x, 0, 0, 0, 0, 0);
        for (int what = 0; what < 3; what++) {
            Check.due("new: count", x.count(what), 0);
        }
        for (int tape = 0; tape < 6; tape++) {
            Check.due("new: peek", x.peek(tape, 0), Watches.NO);
        }
        Check.due("new: turns", x.turns(0, 0), Watches.NO);
        Check.due("new: undo", x.undo(), WatchBeats.STATE);
        WatchBeats y = new WatchBeats();
        x.set(0, 9);
        Check.due("another object has a state of its own", y.told(0), 0);
    }

    private static void promise2() {
        WatchBeats x = new WatchBeats();
        for (int what = 0; what < 7; what++) {
            long[] before = Watches.allOf(x);
            Check.due("set below", x.set(what, LEAST[what] - 1), -1001);
            Check.due("set above", x.set(what, MOST[what] + 1), -1001);
            Check.due("set far below", x.set(what, Integer.MIN_VALUE), -1001);
            Check.due("set far above", x.set(what, Integer.MAX_VALUE), -1001);
            Watches.sameDue("a refused set", Watches.allOf(x), before);
            Check.due("set to the least", x.set(what, LEAST[what]), FIRST[what]);
            Check.due("told behind set", x.told(what), LEAST[what]);
            Check.due("set to the most", x.set(what, MOST[what]), LEAST[what]);
            Check.due("told behind set", x.told(what), MOST[what]);
        }
        for (int what : new int[] {-1, 7, 8, Integer.MIN_VALUE, Integer.MAX_VALUE}) {
            Check.due("set of no such what", x.set(what, 1), -1000);
            Check.due("what goes ahead of v", x.set(what, 1000), -1000);
        }
    }

    private static void promise3() {
        WatchBeats x = Watches.scripted();
        x.wheel(5);
        x.go(3);
        Watches.toldDue("three ticks of the script", x, 1, 3, 1, 0, 0, 1, 99, 1, 3, 3, 0, 3, 1);
        for (int what : new int[] {-1, 13, Integer.MIN_VALUE, Integer.MAX_VALUE}) {
            Check.due("told of no such what", x.told(what), -1000);
        }
    }

    private static void promise4() {
        WatchBeats x = Watches.idle();
        x.go(10);
        int[][] refused = {{10, -1, 0, -1}, {10, 4, 0, -1}, {9, 4, 100, -1}, {9, 0, 0, -2}, {100000, 0, 0, -2},
            {10, 0, -100, -2}, {10, 0, 100, -2}, {10, 1, -100, -2}, {10, 1, 100, -2}, {10, 2, -21, -2},
            {10, 2, 21, -2}, {10, 3, -1, -2}, {10, 3, 10, -2}, {Integer.MIN_VALUE, 0, 0, -2},
            {10, Integer.MAX_VALUE, 0, -1}, {10, 1, Integer.MIN_VALUE, -2}};
        long[] before = Watches.allOf(x);
        for (int[] row : refused) {
            Check.due("push refused", x.push(row[0], row[1], row[2]), row[3]);
        }
        Watches.sameDue("refused pushes", Watches.allOf(x), before);
        int[][] taken = {{10, 0, -99}, {99999, 0, 99}, {10, 1, -99}, {11, 1, 99}, {12, 2, -20}, {12, 2, 20},
            {13, 3, 0}, {13, 3, 9}};
        for (int i = 0; i < taken.length; i++) {
            Check.due("push taken", x.push(taken[i][0], taken[i][1], taken[i][2]), i + 1);
        }
        Check.due("a ninth", x.push(20, 0, 0), WatchBeats.FULL);
        Check.due("BAD goes ahead of FULL", x.push(9, 0, 0), WatchBeats.BAD);
        Check.due("NONE goes ahead of FULL", x.push(20, 4, 0), WatchBeats.NONE);
        x.go(1);
        Check.due("those done wait no more", x.told(11), 6);
        Check.due("there is room again", x.push(11, 0, 0), 7);
    }

    private static void promise5() {
        WatchBeats x = Watches.idle();
        int[][] came = {{50, 0, 1}, {20, 1, 2}, {50, 2, 3}, {20, 0, 4}, {90, 3, 5}, {20, 2, 6}, {0, 0, 7}, {50, 0, 8}};
        int[] order = {6, 1, 3, 5, 0, 2, 7, 4};
        for (int[] row : came) {
            x.push(row[0], row[1], row[2]);
        }
        pushesDue(x, came, order, 0);
        Check.due("pushOf the eighth", x.pushOf(8, 0), -1000);
        Check.due("pushOf below", x.pushOf(-1, 0), -1000);
        Check.due("pushOf what below", x.pushOf(0, -1), -1000);
        Check.due("pushOf what above", x.pushOf(0, 3), -1000);
        Check.due("pushOf far above", x.pushOf(Integer.MAX_VALUE, 0), -1000);
        x.go(21);
        pushesDue(x, came, order, 4);
        Check.due("pushOf behind those that wait", x.pushOf(4, 0), -1000);
        Check.due("pushOf nothing", new WatchBeats().pushOf(0, 0), -1000);
    }

    private static void pushesDue(WatchBeats x, int[][] came, int[] order, int done) {
        for (int k = 0; k < order.length - done; k++) {
            for (int what = 0; what < 3; what++) {
                Check.due("pushOf(" + k + ", " + what + ")", x.pushOf(k, what), came[order[k + done]][what]);
            }
        }
    }

    private static void promise6() {
        WatchBeats x = new WatchBeats();
        for (int n : new int[] {0, -1, 401, Integer.MIN_VALUE, Integer.MAX_VALUE}) {
            Check.due("go refused", x.go(n), WatchBeats.BAD);
        }
        Check.due("a refused go leaves the clock", x.told(8), 0);
        WatchBeats y = Watches.scripted();
        Check.due("go over two beats", y.go(2), 2);
        Check.due("go over two more", y.go(3), 2);
        Check.due("go over none", y.go(3), 0);
        Check.due("go over the last", y.go(400), 1);
        Check.due("all beats", y.told(9), 5);
        Check.due("the clock", y.told(8), 408);
    }

    private static WatchBeats watch(int angle, int speed, int stiff, int drag, int offset, int force) {
        WatchBeats x = new WatchBeats();
        x.set(0, angle);
        x.set(1, speed);
        x.set(2, stiff);
        x.set(3, drag);
        x.set(4, offset);
        x.set(5, force);
        return x;
    }

    /** Angle, speed, pallets, bangs, force and beats behind one tick. */
    private static void tickDue(String when, WatchBeats x, int... want) {
        int[] whats = {0, 1, 7, 10, 5, 9};
        x.go(1);
        for (int i = 0; i < want.length; i++) {
            Check.due(when + ": told(" + whats[i] + ") behind a tick", x.told(whats[i]), want[i]);
        }
    }

    private static void promise6Steps() {
        tickDue("pull", watch(100, 0, 5, 0, 0, 0), 85, -15, 0, 0, 0, 0);
        tickDue("pull from below, cut toward 0", watch(-100, 0, 5, 0, 0, 0), -85, 15, 0, 0, 0, 0);
        tickDue("a pull below 1", watch(-7, 0, 4, 0, 0, 0), -7, 0, 0, 0, 0, 0);
        tickDue("drag", watch(0, 12, 1, 9, 0, 0), 3, 3, 0, 0, 0, 0);
        tickDue("drag from below", watch(0, -12, 1, 9, 0, 0), -3, -3, 0, 0, 0, 0);
        tickDue("drag to 0", watch(0, 8, 1, 9, 0, 0), 0, 0, 0, 0, 0, 0);
        tickDue("drag to 0 from below", watch(0, -8, 1, 9, 0, 0), 0, 0, 0, 0, 0, 0);
        tickDue("drag behind the pull", watch(64, 3, 1, 2, 0, 0), 64, 0, 0, 0, 0, 0);
        tickDue("just no bang", watch(290, 19, 1, 0, 0, 0), 300, 10, 0, 0, 0, 0);
        tickDue("a bang", watch(290, 20, 1, 0, 0, 0), 300, 0, 0, 1, 0, 0);
        tickDue("just no bang below", watch(-290, -19, 1, 0, 0, 0), -300, -10, 0, 0, 0, 0);
        tickDue("a bang below", watch(-290, -20, 1, 0, 0, 0), -300, 0, 0, 1, 0, 0);
        tickDue("a bang and a beat", watch(0, 400, 4, 0, 0, 20), 300, 5, 1, 1, 20, 1);
        tickDue("a beat from OFFSET itself", watch(7, 1, 1, 0, 7, 60), 8, 16, 1, 0, 60, 1);
        tickDue("no beat at OFFSET", watch(6, 1, 1, 0, 7, 60), 7, 1, 0, 0, 60, 0);
        tickDue("no beat from above OFFSET", watch(8, 1, 1, 0, 7, 60), 9, 1, 0, 0, 60, 0);
        tickDue("no beat downward with the pallets up", watch(8, -5, 1, 0, 7, 60), 3, -5, 0, 0, 60, 0);
        tickDue("no beat without force", watch(0, 5, 1, 0, 0, 0), 5, 5, 0, 0, 0, 0);
        tickDue("a kick of force 1", watch(0, 5, 1, 0, 0, 1), 5, 6, 1, 0, 1, 1);
        tickDue("a kick of force 2", watch(0, 5, 1, 0, 0, 2), 5, 6, 1, 0, 2, 1);
        tickDue("a kick of force 5", watch(0, 5, 1, 0, 0, 5), 5, 7, 1, 0, 5, 1);
        WatchBeats wearing = watch(0, 5, 1, 0, 0, 1);
        wearing.set(6, 1);
        tickDue("the last force kicks, and is gone", wearing, 5, 6, 1, 0, 0, 1);
        promise6Down();
    }

    private static WatchBeats down(int angle, int speed) {
        WatchBeats x = watch(0, 1, 1, 0, 0, 4);
        x.set(6, 2);
        x.go(1);
        x.set(0, angle);
        x.set(1, speed);
        return x;
    }

    private static void promise6Down() {
        tickDue("a beat down, the second of a life of 2", down(3, -5), -2, -6, 0, 0, 3, 2);
        tickDue("a beat down from OFFSET itself", down(0, -5), -5, -6, 0, 0, 3, 2);
        tickDue("no beat down at OFFSET", down(5, -5), 0, -5, 1, 0, 4, 1);
        tickDue("no beat down from below OFFSET", down(-1, -5), -6, -5, 1, 0, 4, 1);
        tickDue("no beat upward with the pallets down", down(-1, 5), 4, 5, 1, 0, 4, 1);
    }

    private static void promise6Pushes() {
        WatchBeats x = Watches.idle();
        x.push(0, 1, 99);
        x.push(0, 1, -30);
        x.push(1, 1, -99);
        x.push(1, 1, 5);
        x.push(2, 2, -20);
        x.push(2, 2, 13);
        x.push(3, 3, 9);
        Check.due("go", x.go(1), 0);
        Check.due("FORCE within its bounds, one push behind the other", x.told(5), 30);
        x.go(1);
        Check.due("FORCE within its bounds below", x.told(5), 5);
        x.go(2);
        Check.due("the last OFFSET holds", x.told(4), 13);
        Check.due("DRAG", x.told(3), 9);
        Check.due("none wait", x.told(11), 0);
        WatchBeats fast = watch(-300, 400, 1, 0, 0, 0);
        fast.push(0, 0, 99);
        tickDue("SPEED is held by nothing", fast, 208, 508, 0, 0, 0, 0);
        Check.due("set tells such a SPEED", fast.set(1, 0), 508);
        WatchBeats late = watch(0, 0, 4, 0, 0, 0);
        late.push(0, 0, 10);
        late.push(0, 1, 20);
        tickDue("a push counts in its own tick", late, 10, 15, 1, 0, 20, 1);
    }

    private static void promise6End() {
        WatchBeats x = Watches.atLastClock();
        Check.due("the clock", x.told(8), 99999);
        Check.due("no tick more", x.go(1), WatchBeats.FULL);
        Check.due("BAD goes ahead", x.go(401), WatchBeats.BAD);
        Check.due("a push ahead of the clock", x.push(99998, 0, 5), WatchBeats.BAD);
        Check.due("a push now", x.push(99999, 0, 5), 1);
        Check.due("in thought it goes on", x.ahead(6, 0), 30);
        Check.due("in thought it has energy", x.energyAt(1), 32 * 25 + 25);
        x.set(5, 1);
        Check.due("in thought there are beats", x.heard(0), 0);
        Check.due("the push waits still", x.told(11), 1);
        WatchBeats y = Watches.idle();
        for (int i = 0; i < 249; i++) {
            y.go(400);
        }
        Check.due("beyond the last by one", y.go(400), WatchBeats.FULL);
        Check.due("the clock stays", y.told(8), 99600);
    }

    private static void promise9() {
        WatchBeats x = new WatchBeats();
        x.set(1, 30);
        Watches.energiesDue("set SPEED", x, 28800, 0, 0, 0, 28800);
        x.go(1);
        Watches.energiesDue("a beat", x, 28800, 3600, 0, 10400, 42800);
        x.go(1);
        Watches.energiesDue("a pull and a way", x, 28800, 3600 + (32 * (32 * 32 - 35 * 35)) + 4 * (62 * 62 - 900), 0,
            10400, 32 * 32 * 32 + 4 * 62 * 62);
        x.set(2, 5);
        Check.due("set STIFF is by hand", x.energy(0), 28800 + 62 * 62);
        x.set(0, 0);
        Check.due("set ANGLE is by hand", x.energy(0), 28800 - 4 * 62 * 62);
        WatchBeats y = watch(290, 30, 1, 9, 0, 0);
        y.push(0, 0, -10);
        long hand = 32L * 900 + 290 * 290 + 32L * (400 - 900);
        long drag = 32L * (4 - 121);
        y.go(1);
        Watches.energiesDue("a push, a drag, no bang", y, hand, 32L * (121 - 400) + 292 * 292 - 290 * 290, drag, 0,
            32L * 4 + 292 * 292);
        WatchBeats z = watch(290, 20, 1, 0, 0, 0);
        z.go(1);
        Watches.energiesDue("a bang", z, 32L * 400 + 290 * 290, 300 * 300 - 290 * 290 - 32L * 400, 0, 0, 90000);
        for (int what : new int[] {-1, 5, Integer.MIN_VALUE, Integer.MAX_VALUE}) {
            Check.due("energy of no such what", x.energy(what), Watches.NO);
        }
        WatchBeats all = Watches.lively();
        for (int i = 0; i < 50; i++) {
            all.push(all.told(8), 0, i);
            all.go(3);
            long together = all.energy(0) + all.energy(1) + all.energy(2) + all.energy(3);
            Check.due("the account is the energy", together, all.energy(4));
        }
    }
}
