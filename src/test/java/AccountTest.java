/** Promise 9: energy, and the account of all by which it comes and goes. */
public final class AccountTest {
    public static void main(String[] args) {
        zeroAtFirst();
        energyOfSpeedAndAngle();
        energyAtBounds();
        bySet();
        byClauses();
        byPushes();
        byPullAndWay();
        byBang();
        byDrag();
        byKick();
        togetherEnergy();
        refused();
        Check.end();
    }

    private static void due(String when, WatchBeats x, long... want) {
        Watches.energiesDue(when, x, want);
    }

    private static WatchBeats watch(int angle, int speed, int stiff, int drag, int force) {
        return Watches.watch(angle, speed, stiff, drag, 0, force);
    }

    private static void zeroAtFirst() {
        Check.sentence("1 THE BALANCE", "THE ACCOUNT (0 each at first)");
        due("new", new WatchBeats(), 0, 0, 0, 0, 0);
    }

    private static void energyOfSpeedAndAngle() {
        Check.sentence("1 THE BALANCE", "ENERGY: 32 times SPEED times SPEED, and STIFF times ANGLE times ANGLE.");
        WatchBeats x = new WatchBeats();
        x.set(0, -3);
        Check.due("ANGLE -3, STIFF 4", x.energy(4), 36);
        x.set(1, -5);
        Check.due("and SPEED -5", x.energy(4), 36 + 800);
        x.set(2, 7);
        Check.due("STIFF 7", x.energy(4), 63 + 800);
        x.set(0, 0);
        Check.due("ANGLE 0", x.energy(4), 800);
    }

    private static void energyAtBounds() {
        Check.sentence("Promise 9", "ENERGY (what 4)");
        for (int angle : new int[] {-300, 300}) {
            for (int speed : new int[] {-400, 400}) {
                long energy = 32L * 400 * 400 + 32L * 300 * 300;
                due("the most", watch(angle, speed, 32, 9, 60), energy, 0, 0, 0, energy);
            }
        }
        due("the least", watch(0, 0, 1, 0, 0), 0, 0, 0, 0, 0);
    }

    private static void bySet() {
        Check.sentence("1 THE BALANCE", "0 by hand (calls of set(), clauses, PUSHES (a))");
        WatchBeats x = new WatchBeats();
        x.set(1, 30);
        due("SPEED", x, 28800, 0, 0, 0, 28800);
        x.set(0, 10);
        due("ANGLE", x, 29200, 0, 0, 0, 29200);
        x.set(2, 5);
        due("STIFF", x, 29300, 0, 0, 0, 29300);
        x.set(3, 9);
        x.set(4, 9);
        x.set(5, 9);
        x.set(6, 9);
        due("DRAG, OFFSET, FORCE and LIFE hold none", x, 29300, 0, 0, 0, 29300);
        x.set(1, 0);
        due("less", x, 500, 0, 0, 0, 500);
        x.set(0, 0);
        due("none", x, 0, 0, 0, 0, 0);
    }

    private static void byClauses() {
        Check.sentence("1 THE BALANCE", "clauses, PUSHES (a)), 1 by (b) and (d)");
        WatchBeats x = new WatchBeats();
        Check.due("read", Watches.read(x, "v30;a10;s5;g9;o9;f0;l9;w9"), 8);
        due("clauses are by hand", x, 29300, 0, 0, 0, 29300);
        Check.due("read", Watches.read(x, "t1"), 1);
        // SPEED is 29 by the pull, 20 by the drag, ANGLE is 30 then.
        due("TICKS of a clause aren't", x, 29300, 32 * (29 * 29 - 900) + 5 * (900 - 100), 32 * (400 - 29 * 29), 0,
            32 * 400 + 5 * 900);
    }

    private static void byPushes() {
        Check.sentence("1 THE BALANCE", "PUSHES (a))");
        WatchBeats x = watch(0, 20, 1, 0, 0);
        x.push(0, 0, -30);
        x.push(0, 1, -5);
        x.push(0, 2, 20);
        x.push(0, 3, 2);
        due("ahead of the TICK", x, 12800, 0, 0, 0, 12800);
        x.go(1);
        due("SPEED 20 less 30, 2 of them dragged away", x, 3200, 64, 32 * (64 - 100), 0, 32 * 64 + 64);
    }

    private static void byPullAndWay() {
        Check.sentence("1 THE BALANCE", "1 by (b) and (d) (a BANG, too)");
        WatchBeats x = watch(100, 0, 5, 0, 0);
        x.go(1);
        due("a pull by 15, a way of 15", x, 50000, 32 * 225 + 5 * (85 * 85 - 10000), 0, 0, 32 * 225 + 5 * 85 * 85);
        WatchBeats y = watch(0, 10, 5, 0, 0);
        y.go(1);
        due("a way alone", y, 3200, 500, 0, 0, 3700);
    }

    private static void byBang() {
        Check.sentence("1 THE BALANCE", "(a BANG, too)");
        WatchBeats x = watch(290, 20, 1, 0, 0);
        x.go(1);
        due("SPEED 11 is lost", x, 32 * 400 + 290 * 290, 300 * 300 - 290 * 290 - 32 * 400, 0, 0, 90000);
        WatchBeats y = watch(-290, -19, 1, 0, 0);
        y.go(1);
        due("no BANG at -300 itself", y, 32 * 361 + 290 * 290, 32 * (100 - 361) + 90000 - 290 * 290, 0, 0, 93200);
    }

    private static void byDrag() {
        Check.sentence("1 THE BALANCE", "2 by (c)");
        WatchBeats x = watch(0, 9, 1, 9, 0);
        x.go(1);
        due("all of it", x, 32 * 81, 0, -32 * 81, 0, 0);
        WatchBeats y = watch(0, 12, 1, 9, 0);
        y.go(1);
        due("some of it", y, 32 * 144, 9, 32 * (9 - 144), 0, 32 * 9 + 9);
    }

    private static void byKick() {
        Check.sentence("1 THE BALANCE", "3 by (e)");
        WatchBeats x = watch(0, 5, 1, 0, 60);
        x.go(1);
        due("a kick of 15", x, 800, 25, 0, 32 * (400 - 25), 32 * 400 + 25);
        x.set(1, -25);
        long hand = 800 + 32 * (625 - 400);
        x.go(1);
        due("a kick of 15 downward", x, hand, 25 + 400 - 25, 0, 32 * (400 - 25) + 32 * (1600 - 625), 32 * 1600 + 400);
    }

    private static void togetherEnergy() {
        Check.sentence("1 THE BALANCE", "together they are ENERGY at any time");
        WatchBeats x = Watches.lively();
        for (int i = 0; i < 60; i++) {
            x.push(x.told(8), 0, i);
            x.go(1 + i % 5);
            long together = x.energy(0) + x.energy(1) + x.energy(2) + x.energy(3);
            Check.due("the four together", together, x.energy(4));
        }
        Check.holds("there were BANGS and BEATS among them", x.told(9) > 10 && x.told(10) > 0);
    }

    private static void refused() {
        Check.sentence("Promise 9", "THE ACCOUNT (0 .. 3). NO.");
        for (int what : Values.outside(0, 4)) {
            Still.refused("energy(" + what + ")", WatchBeats.NO, x -> x.energy(what));
        }
    }
}
