/** Promises 22, 23 and 27: the book, what is looked at in it, and how many there are of what is told. */
public final class BookTest {
    public static void main(String[] args) {
        rowsTaken();
        beatRefused();
        ticksRefused();
        eightRows();
        badAheadOfFull();
        emptyThen();
        emptyBook();
        firstOfThese();
        lastRow();
        notHeard();
        lastBeatAndTick();
        countsOfAll();
        countRefused();
        Check.end();
    }

    private static void rowsTaken() {
        Check.sentence("2", "A BOOK told by hand: k (0 .. 99), n (0 .. 400; 8 rows at most)");
        for (int k : Values.atBounds(0, 99)) {
            for (int n : Values.atBounds(0, 400)) {
                WatchBeats x = new WatchBeats();
                Check.due("book(" + k + ", " + n + ")", x.book(k, n), 1);
                Check.due("count(1)", x.count(1), 1);
                Check.due("looked()", x.looked(), 0);
            }
        }
    }

    private static void beatRefused() {
        Check.sentence("Promise 22", "BAD: k");
        for (int k : Values.outside(-1, 99)) {
            Still.refused("book(" + k + ", 0)", WatchBeats.BAD, x -> x.book(k, 0));
            Still.refused("book(" + k + ", 401)", WatchBeats.BAD, x -> x.book(k, 401));
        }
    }

    private static void ticksRefused() {
        Check.sentence("Promise 22", "BAD: k, n");
        for (int n : Values.outside(0, 400)) {
            for (int k : Values.atBounds(0, 99)) {
                Still.refused("book(" + k + ", " + n + ")", WatchBeats.BAD, x -> x.book(k, n));
            }
        }
    }

    private static void eightRows() {
        Check.sentence("Promise 22", "FULL: 8.");
        WatchBeats x = new WatchBeats();
        for (int i = 1; i <= 8; i++) {
            Check.due("book", x.book(i, i), i);
        }
        Check.due("a ninth", x.book(0, 0), WatchBeats.FULL);
        Check.due("eight", x.count(1), 8);
        for (int k : Values.atBounds(0, 99)) {
            Still.refusedIn(Start.FULL, "book(" + k + ", 400)", WatchBeats.FULL, y -> y.book(k, 400));
        }
    }

    private static void badAheadOfFull() {
        Check.sentence("Promise 22", "BAD: k, n; FULL: 8.");
        Still.refusedIn(Start.FULL, "book(100, 0)", WatchBeats.BAD, x -> x.book(100, 0));
        Still.refusedIn(Start.FULL, "book(-2, 0)", WatchBeats.BAD, x -> x.book(-2, 0));
        Still.refusedIn(Start.FULL, "book(0, 401)", WatchBeats.BAD, x -> x.book(0, 401));
        Still.refusedIn(Start.FULL, "book(0, -1)", WatchBeats.BAD, x -> x.book(0, -1));
    }

    private static void emptyThen() {
        Check.sentence("Promise 22", "(k -1: it is empty then, 0, whatever the rest is)");
        for (int n : new int[] {0, 400, -1, 401, Integer.MIN_VALUE, Integer.MAX_VALUE}) {
            for (Start start : Start.values()) {
                WatchBeats x = start.watch();
                Check.due(start + ": book(-1, " + n + ")", x.book(-1, n), 0);
                Check.due("count(1)", x.count(1), 0);
                Check.due("looked()", x.looked(), -5);
                Check.due("the first again", x.book(0, 400), 1);
                Check.due("it is looked at", x.looked(), 0);
                Check.due("what is SEEN stays", x.count(0), start.watch().count(0));
            }
        }
    }

    private static void emptyBook() {
        Check.sentence("2", "isn't n TICKS from now (-5: none)");
        Check.due("no row", Watches.scripted().looked(), -5);
        Check.due("no row and no BEAT", Watches.idle().looked(), -5);
        WatchBeats x = Watches.scripted();
        for (int k = 0; k < 5; k++) {
            x.book(k, Watches.SCRIPTED_BEATS[k]);
            Check.due("all are so", x.looked(), -5);
        }
    }

    private static void firstOfThese() {
        Check.sentence("2", "the number (from 0) of the first of these rows for which BEAT k HEARD (from 0) isn't n "
            + "TICKS from now");
        WatchBeats x = Watches.scripted();
        x.book(4, 8);
        x.book(0, 0);
        x.book(2, 2);
        x.book(3, 5);
        Check.due("the fourth isn't", x.looked(), 3);
        x.book(4, 7);
        Check.due("the first of two", x.looked(), 3);
        x.go(1);
        Check.due("all is told from now on", x.looked(), 0);
        WatchBeats y = Watches.scripted();
        y.book(0, 1);
        y.book(0, 0);
        Check.due("the first of the BOOK, so the rest is", y.looked(), 0);
    }

    private static void lastRow() {
        Check.sentence("2", "8 rows at most): LOOKED at");
        WatchBeats x = Watches.scripted();
        for (int i = 0; i < 7; i++) {
            x.book(4, 8);
        }
        x.book(4, 9);
        Check.due("the eighth isn't", x.looked(), 7);
    }

    private static void notHeard() {
        Check.sentence("2", "for which BEAT k HEARD (from 0) isn't n TICKS from now");
        WatchBeats x = Watches.scripted();
        x.book(4, 8);
        x.book(5, 8);
        Check.due("a BEAT that isn't HEARD", x.looked(), 1);
        for (int n : new int[] {0, 399, 400}) {
            WatchBeats still = Watches.idle();
            still.book(0, n);
            Check.due("no BEAT is HEARD", still.looked(), 0);
        }
    }

    private static void lastBeatAndTick() {
        Check.sentence("2", "k (0 .. 99)");
        WatchBeats x = Watches.quick(60, 99);
        x.book(99, 301);
        x.book(98, 298);
        Check.due("BEATS 99 and 98", x.looked(), -5);
        x.book(99, 302);
        Check.due("BEAT 99 at another", x.looked(), 2);
        WatchBeats fewer = Watches.quick(1, 99);
        fewer.book(98, 298);
        fewer.book(99, 301);
        Check.due("there is no BEAT 99", fewer.looked(), 1);
        WatchBeats late = Watches.idle();
        late.set(5, 1);
        late.push(399, 0, 1);
        late.book(0, 399);
        Check.due("in the last TICK that is HEARD", late.looked(), -5);
        late.book(-1, 0);
        late.book(0, 400);
        Check.due("none is 400 from now", late.looked(), 0);
    }

    private static void countsOfAll() {
        Check.sentence("Promise 27", "How many: 0 SEEN, 1 of the BOOK, 2 bytes of THE TEXT.");
        int[][] counts = {{0, 0, 0}, {3, 3, 5}, {5, 8, 100}, {2, 2, 0}};
        for (Start start : Start.values()) {
            WatchBeats x = start.watch();
            for (int what = 0; what <= 2; what++) {
                Check.due(start + ": count(" + what + ")", x.count(what), counts[start.ordinal()][what]);
            }
        }
    }

    private static void countRefused() {
        Check.sentence("Promise 27", "BAD.");
        for (int what : Values.outside(0, 2)) {
            Still.refused("count(" + what + ")", WatchBeats.BAD, x -> x.count(what));
        }
    }
}
