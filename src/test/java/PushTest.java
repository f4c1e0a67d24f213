/** Promises 4 and 5, and of the document's PUSHES what they are told with and in which order they wait. */
public final class PushTest {
    private static final int[] LEAST = {-99, -99, -20, 0};
    private static final int[] MOST = {99, 99, 20, 9};

    public static void main(String[] args) {
        timeTaken();
        timeRefused();
        sizeTaken();
        sizeRefused();
        whatRefused();
        noneAheadOfAll();
        badAheadOfFull();
        eightWait();
        roomAgain();
        doneThenNoMore();
        neverDone();
        byTimeThenAsTheyCame();
        orderBehindThoseDone();
        placeOfPush();
        whatOfPush();
        Check.end();
    }

    private static void timeTaken() {
        Check.sentence("PUSHES", "a TIME (CLOCK or later, 99999 at most)");
        for (Start start : new Start[] {Start.NEW, Start.BUSY, Start.LAST_CLOCK}) {
            int clock = start.watch().told(8);
            for (int time : Values.atBounds(clock, 99999)) {
                WatchBeats x = start.watch();
                int waiting = x.told(11);
                Check.due(start + ": push(" + time + ", 3, 1)", x.push(time, 3, 1), waiting + 1);
                int place = time == 99999 ? waiting : time > clock + 1 ? waiting : 0;
                Check.due(start + ": its TIME", x.pushOf(place, 0), time);
            }
        }
    }

    private static void timeRefused() {
        Check.sentence("Promise 4", "BAD: time");
        for (Start start : Start.values()) {
            for (int time : Values.outside(start.watch().told(8), 99999)) {
                for (int what = 0; what < 4; what++) {
                    int pushed = what;
                    Still.refusedIn(start, "push(" + time + ", " + what + ", 1)", WatchBeats.BAD,
                        x -> x.push(time, pushed, 1));
                }
            }
        }
    }

    private static void sizeTaken() {
        Check.sentence("Promise 4", "n (-99 .. 99; by 2 -20 .. 20; by 3 0 .. 9)");
        for (int what = 0; what < 4; what++) {
            for (int n : Values.atBounds(LEAST[what], MOST[what])) {
                WatchBeats x = new WatchBeats();
                Check.due("push(7, " + what + ", " + n + ")", x.push(7, what, n), 1);
                Check.due("its TIME", x.pushOf(0, 0), 7);
                Check.due("what it pushes", x.pushOf(0, 1), what);
                Check.due("its n", x.pushOf(0, 2), n);
            }
        }
    }

    private static void sizeRefused() {
        for (int what = 0; what < 4; what++) {
            Check.sentence("Promise 4", what == 2 ? "by 2 -20 .. 20" : what == 3 ? "by 3 0 .. 9" : "n (-99 .. 99;");
            int pushed = what;
            for (int n : Values.outside(LEAST[what], MOST[what])) {
                Still.refused("push(99999, " + what + ", " + n + ")", WatchBeats.BAD, x -> x.push(99999, pushed, n));
            }
        }
    }

    private static void whatRefused() {
        Check.sentence("Promise 4", "NONE: what");
        for (int what : Values.outside(0, 3)) {
            Still.refused("push(99999, " + what + ", 0)", WatchBeats.NONE, x -> x.push(99999, what, 0));
        }
    }

    private static void noneAheadOfAll() {
        Check.sentence("Promise 4", "NONE: what; BAD: time, n");
        for (int what : Values.outside(0, 3)) {
            Still.refusedIn(Start.FULL, "push(-1, " + what + ", 0)", WatchBeats.NONE, x -> x.push(-1, what, 0));
            Still.refusedIn(Start.FULL, "push(99, " + what + ", 100)", WatchBeats.NONE, x -> x.push(99, what, 100));
        }
    }

    private static void badAheadOfFull() {
        Check.sentence("Promise 4", "by 3 0 .. 9); FULL: 8.");
        Still.refusedIn(Start.FULL, "push(6, 0, 0)", WatchBeats.BAD, x -> x.push(6, 0, 0));
        Still.refusedIn(Start.FULL, "push(100000, 0, 0)", WatchBeats.BAD, x -> x.push(100000, 0, 0));
        Still.refusedIn(Start.FULL, "push(7, 0, 100)", WatchBeats.BAD, x -> x.push(7, 0, 100));
    }

    private static void eightWait() {
        Check.sentence("PUSHES", "8 at most wait");
        WatchBeats x = new WatchBeats();
        for (int i = 1; i <= 8; i++) {
            Check.due("push " + i, x.push(50 - i, 0, i), i);
        }
        Check.due("a ninth", x.push(50, 0, 0), WatchBeats.FULL);
        for (int what = 0; what < 4; what++) {
            int pushed = what;
            Still.refusedIn(Start.FULL, "a ninth, of " + what, WatchBeats.FULL, y -> y.push(7, pushed, 1));
            Still.refusedIn(Start.FULL, "a ninth, of " + what, WatchBeats.FULL, y -> y.push(99999, pushed, 1));
        }
    }

    private static void roomAgain() {
        Check.sentence("PUSHES", "when its TICK is, it is done and waits no more");
        WatchBeats x = Watches.idle();
        for (int i = 0; i < 8; i++) {
            x.push(i / 4, 0, 0);
        }
        Check.due("a ninth", x.push(5, 0, 0), WatchBeats.FULL);
        x.go(1);
        Check.due("four wait still", x.told(11), 4);
        for (int i = 5; i <= 8; i++) {
            Check.due("there is room again", x.push(5, 0, 0), i);
        }
        Check.due("a ninth again", x.push(5, 0, 0), WatchBeats.FULL);
    }

    private static void doneThenNoMore() {
        Check.sentence("PUSHES", "it is done and waits no more");
        WatchBeats x = Watches.idle();
        x.push(1, 0, 3);
        x.go(1);
        Check.due("it waits ahead of its TICK", x.told(11), 1);
        Check.due("it isn't done ahead of its TICK", x.told(1), 0);
        x.go(1);
        Check.due("it waits no more", x.told(11), 0);
        Check.due("it is done", x.told(1), 3);
        x.go(1);
        Check.due("it is done once", x.told(1), 3);
    }

    private static void neverDone() {
        Check.sentence("2", "CLOCK beyond 99999, too), PUSHES as they wait");
        WatchBeats x = Watches.atLastClock();
        Check.due("a push now", x.push(99999, 0, 5), 1);
        Check.due("no TICK comes", x.go(1), WatchBeats.FULL);
        Check.due("it waits still", x.told(11), 1);
        Check.due("in thought it is done", x.ahead(1, 1), 5);
    }

    private static void byTimeThenAsTheyCame() {
        Check.sentence("Promise 5", "by TIME, then as they came");
        int[][] came = {{50, 0, 1}, {20, 1, 2}, {50, 2, 3}, {20, 0, 4}, {90, 3, 5}, {20, 2, 6}, {0, 0, 7}, {50, 0, 8}};
        pushesDue(pushed(came), came, 6, 1, 3, 5, 0, 2, 7, 4);
        int[][] falling = {{9, 0, 1}, {8, 0, 2}, {7, 0, 3}, {6, 0, 4}, {5, 0, 5}, {4, 0, 6}, {3, 0, 7}, {2, 0, 8}};
        pushesDue(pushed(falling), falling, 7, 6, 5, 4, 3, 2, 1, 0);
        int[][] alike = {{9, 0, 8}, {9, 1, 7}, {9, 2, 6}, {9, 3, 5}, {9, 0, 4}, {9, 1, 3}, {9, 2, 2}, {9, 3, 1}};
        pushesDue(pushed(alike), alike, 0, 1, 2, 3, 4, 5, 6, 7);
    }

    private static void orderBehindThoseDone() {
        Check.sentence("Promise 5", "Of the k-th (from 0) PUSH that waits");
        int[][] came = {{50, 0, 1}, {20, 1, 2}, {50, 2, 3}, {20, 0, 4}, {90, 3, 5}, {20, 2, 6}, {0, 0, 7}, {50, 0, 8}};
        WatchBeats x = pushed(came);
        x.go(20);
        pushesDue(x, came, 1, 3, 5, 0, 2, 7, 4);
        x.go(1);
        pushesDue(x, came, 0, 2, 7, 4);
        x.push(50, 3, 9);
        x.push(49, 3, 8);
        Check.due("one that comes ahead", x.pushOf(0, 2), 8);
        Check.due("one that comes between", x.pushOf(4, 2), 9);
        x.go(70);
        Check.due("none waits", x.pushOf(0, 0), -1000);
    }

    private static WatchBeats pushed(int[][] came) {
        WatchBeats x = Watches.idle();
        for (int[] row : came) {
            x.push(row[0], row[1], row[2]);
        }
        return x;
    }

    private static void pushesDue(WatchBeats x, int[][] came, int... order) {
        for (int k = 0; k < order.length; k++) {
            for (int what = 0; what < 3; what++) {
                Check.due("pushOf(" + k + ", " + what + ")", x.pushOf(k, what), came[order[k]][what]);
            }
        }
        Check.due("pushOf behind the last", x.pushOf(order.length, 0), -1000);
    }

    private static void placeOfPush() {
        Check.sentence("Promise 5", "-1000: k");
        for (Start start : Start.values()) {
            int waiting = start.watch().told(11);
            for (int k : Values.outside(0, waiting - 1)) {
                for (int what = 0; what < 3; what++) {
                    int asked = what;
                    Still.refusedIn(start, "pushOf(" + k + ", " + what + ")", -1000, x -> x.pushOf(k, asked));
                }
            }
        }
    }

    private static void whatOfPush() {
        Check.sentence("Promise 5", "-1000: k, what.");
        for (int what : Values.outside(0, 2)) {
            Still.refused("pushOf(0, " + what + ")", -1000, x -> x.pushOf(0, what));
        }
        Check.due("the last of eight", Start.FULL.watch().pushOf(7, 0), 27);
        Still.refusedIn(Start.FULL, "pushOf(7, 3)", -1000, x -> x.pushOf(7, 3));
        Still.refusedIn(Start.FULL, "pushOf(7, -1)", -1000, x -> x.pushOf(7, -1));
    }
}
