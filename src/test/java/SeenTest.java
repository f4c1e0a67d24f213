/** Promises 18 to 21: what is seen, by which stiffness the watch goes so, odds and means. */
public final class SeenTest {
    public static void main(String[] args) {
        promise18();
        promise19();
        promise19ByHand();
        promise20();
        promise21();
        Check.end();
    }

    private static void promise18() {
        WatchBeats x = new WatchBeats();
        int[][] refused = {{-2, 0}, {401, 0}, {0, -301}, {0, 301}, {Integer.MIN_VALUE, 0}, {Integer.MAX_VALUE, 0},
            {0, Integer.MIN_VALUE}, {0, Integer.MAX_VALUE}};
        for (int[] row : refused) {
            Check.due("see refused", x.see(row[0], row[1]), WatchBeats.BAD);
        }
        Check.due("none came", x.count(0), 0);
        int[][] taken = {{0, 0}, {400, 300}, {7, -300}, {7, -300}, {1, 1}};
        for (int i = 0; i < taken.length; i++) {
            Check.due("see", x.see(taken[i][0], taken[i][1]), i + 1);
        }
        Check.due("a sixth", x.see(0, 0), WatchBeats.FULL);
        Check.due("BAD goes ahead of FULL", x.see(0, 301), WatchBeats.BAD);
        Check.due("five", x.count(0), 5);
        Check.due("none then, whatever the rest is", x.see(-1, 999), 0);
        Check.due("none", x.count(0), 0);
        Check.due("the first again", x.see(1, 1), 1);
    }

    private static void fitsDue(String when, WatchBeats x, int many, int least) {
        Check.due(when + ": fits(0)", x.fits(0), many);
        Check.due(when + ": fits(1)", x.fits(1), least);
    }

    private static void promise19() {
        WatchBeats x = Watches.idle();
        fitsDue("without any", x, 32, 1);
        x.set(0, 32);
        x.see(1, 22);
        fitsDue("32 less a stiffness of 10", x, 1, 10);
        x.see(0, 32);
        fitsDue("ANGLE now, too", x, 1, 10);
        x.see(2, 5);
        fitsDue("22 less 10 and 6", x, 0, -5);
        x.see(-1, 0);
        x.see(0, 31);
        fitsDue("ANGLE now is another", x, 0, -5);
        x.see(-1, 0);
        x.set(0, 2);
        x.see(1, 1);
        fitsDue("2 times 16 .. 31 by 32 is 1", x, 16, 16);
        x.see(1, 0);
        fitsDue("two rows against one another", x, 0, -5);
        x.see(-1, 0);
        x.see(1, 0);
        fitsDue("2 times 32 by 32 is 2", x, 1, 32);
        for (int what : new int[] {-1, 2, Integer.MIN_VALUE, Integer.MAX_VALUE}) {
            Check.due("fits of no such what", x.fits(what), WatchBeats.NONE);
        }
    }

    private static void promise19ByHand() {
        for (int stiff = 1; stiff <= 32; stiff++) {
            WatchBeats x = Watches.lively();
            x.go(5);
            x.push(20, 0, 30);
            x.push(22, 2, -9);
            x.set(2, stiff);
            x.see(400, x.ahead(400, 0));
            x.see(30, x.ahead(30, 0));
            x.set(2, 1);
            int many = 0;
            int least = -5;
            for (int tried = 32; tried >= 1; tried--) {
                WatchBeats y = Watches.lively();
                y.go(5);
                y.push(20, 0, 30);
                y.push(22, 2, -9);
                y.set(2, tried);
                x.set(2, stiff);
                if (y.ahead(400, 0) == x.ahead(400, 0) && y.ahead(30, 0) == x.ahead(30, 0)) {
                    many++;
                    least = tried;
                }
            }
            x.set(2, 1);
            fitsDue("as seen with " + stiff, x, many, least);
        }
    }

    private static void oddsDue(String when, WatchBeats x, int n, long above, long below) {
        Check.due(when + ": odds(" + n + ", 0)", x.odds(n, 0), above);
        Check.due(when + ": odds(" + n + ", 1)", x.odds(n, 1), below);
    }

    private static void promise20() {
        WatchBeats x = Watches.idle();
        oddsDue("none is sure", x, 0, 1, 1);
        oddsDue("without force", x, 1, 0, 1);
        x.set(5, 1);
        // A push by 20 makes the SPEEDS to 0, 4, .. 40, of which a DRAG of 9 holds 0, 4 and 8.
        x.set(5, 1);
        x.set(3, 9);
        x.push(0, 0, 20);
        oddsDue("eight of eleven", x, 1, 8, 11);
        oddsDue("they rest then", x, 2, 0, 1);
        WatchBeats y = Watches.lively();
        y.push(3, 0, 50);
        for (int n = 0; n <= 99; n += 3) {
            long likely = byHand(y, n);
            boolean whole = likely % 11 == 0;
            oddsDue("lively", y, n, whole ? likely / 11 : likely, whole ? 1 : 11);
        }
        for (int n : new int[] {-1, 100, Integer.MIN_VALUE, Integer.MAX_VALUE}) {
            Check.due("odds of no such n", y.odds(n, 0), Watches.NO);
        }
        for (int part : new int[] {-1, 2, Integer.MIN_VALUE, Integer.MAX_VALUE}) {
            Check.due("odds of no such part", y.odds(0, part), Watches.NO);
        }
    }

    private static long byHand(WatchBeats x, int n) {
        int speed = x.told(1);
        int likely = 0;
        for (int tried = -20; tried <= 20; tried += 4) {
            x.set(1, tried);
            if (x.beat(0) >= n) {
                likely++;
            }
        }
        x.set(1, speed);
        return likely;
    }

    private static void meanDue(WatchBeats x, long above, long below) {
        Check.due("mean(0)", x.mean(0), above);
        Check.due("mean(1)", x.mean(1), below);
    }

    private static void promise21() {
        WatchBeats x = Watches.scripted();
        meanDue(x, 2, 1);
        x.go(1);
        meanDue(x, 7, 3);
        for (int part : new int[] {-1, 2, Integer.MIN_VALUE, Integer.MAX_VALUE}) {
            Check.due("mean of no such part", x.mean(part), Watches.NO);
        }
        x.go(1);
        meanDue(x, 3, 1);
        x.go(1);
        meanDue(x, 4, 1);
        x.go(1);
        meanDue(x, 4, 1);
        x.go(1);
        meanDue(x, Watches.NO, Watches.NO);
        meanDue(Watches.idle(), Watches.NO, Watches.NO);
    }
}
