/** Promises 22 to 24 and 27: the book, what is looked at in it, rows judged, and how many there are of all. */
public final class BookTest {
    public static void main(String[] args) {
        promise22();
        promise23();
        promise24();
        promise24Refused();
        promise27();
        Check.end();
    }

    private static void promise22() {
        WatchBeats x = new WatchBeats();
        int[][] refused = {{-2, 0}, {100, 0}, {0, -1}, {0, 401}, {Integer.MIN_VALUE, 0}, {Integer.MAX_VALUE, 0},
            {0, Integer.MIN_VALUE}, {0, Integer.MAX_VALUE}};
        for (int[] row : refused) {
            Check.due("book refused", x.book(row[0], row[1]), WatchBeats.BAD);
        }
        Check.due("none came", x.count(1), 0);
        for (int i = 0; i < 8; i++) {
            Check.due("book", x.book(i % 2 == 0 ? 0 : 99, i % 2 == 0 ? 400 : 0), i + 1);
        }
        Check.due("a ninth", x.book(0, 0), WatchBeats.FULL);
        Check.due("BAD goes ahead of FULL", x.book(100, 0), WatchBeats.BAD);
        Check.due("eight", x.count(1), 8);
        Check.due("empty then, whatever the rest is", x.book(-1, -7), 0);
        Check.due("none", x.count(1), 0);
        Check.due("the first again", x.book(1, 1), 1);
    }

    private static void promise23() {
        WatchBeats x = Watches.scripted();
        Check.due("an empty book", x.looked(), -5);
        x.book(4, 8);
        x.book(0, 0);
        x.book(2, 2);
        Check.due("all are so", x.looked(), -5);
        Check.due("looked, the first thing asked", booked().looked(), 1);
        x.book(3, 5);
        Check.due("the fourth isn't", x.looked(), 3);
        x.book(4, 7);
        Check.due("the first of two", x.looked(), 3);
        x.go(1);
        Check.due("all is told from now on", x.looked(), 0);
        WatchBeats y = Watches.scripted();
        y.book(4, 8);
        y.book(5, 8);
        Check.due("a beat that isn't heard", y.looked(), 1);
        WatchBeats still = Watches.idle();
        still.book(0, 0);
        Check.due("no beat is heard", still.looked(), 0);
    }

    /** No BEAT is 0 TICKS from now, as in a row that never came. */
    private static WatchBeats booked() {
        WatchBeats x = Watches.scripted();
        x.go(5);
        x.book(0, 3);
        Check.due("rows that didn't come aren't looked at", x.looked(), -5);
        x.book(0, 4);
        return x;
    }

    private static WatchBeats withRow(int size, int place, int... items) {
        WatchBeats x = Watches.scripted();
        x.tape(2, 1, size);
        for (int i = 0; i < items.length; i++) {
            x.item(2, place + i, items[i]);
        }
        return x;
    }

    private static void promise24() {
        WatchBeats x = withRow(20, 3, 0, 1, 2, 4, 8, 77);
        Check.due("all are so", x.judge(2, 3), -5);
        Check.due("from another place", x.judge(2, 0), 1);
        Check.due("from another place", x.judge(2, 4), 0);
        x.item(2, 7, 9);
        Check.due("the last isn't", x.judge(2, 3), 4);
        x.item(2, 4, 65537);
        Check.due("a short has sixteen bits", x.judge(2, 3), 4);
        x.item(2, 4, 3);
        Check.due("the first that isn't", x.judge(2, 3), 1);
        WatchBeats whole = withRow(8, 3, 0, 1, 2, 4, 8);
        Check.due("up to the very end", whole.judge(2, 3), -5);
        WatchBeats shorter = withRow(7, 3, 0, 1, 2, 4);
        Check.due("the row ends ahead of the last", shorter.judge(2, 3), 104);
        Check.due("the row ends behind one that isn't", withRow(4, 2, 0, 3).judge(2, 2), 1);
        for (int place : new int[] {7, 8, 60, Integer.MAX_VALUE, -1, Integer.MIN_VALUE}) {
            Check.due("no place in the row", shorter.judge(2, place), 100);
        }
        Check.due("an empty row", withRow(0, 0).judge(2, 0), 100);
        Check.due("nothing there", shorter.judge(1, 0), 100);
        Check.due("nothing there, below 0", shorter.judge(1, -1), 100);
        Check.due("nothing there, far on", shorter.judge(1, Integer.MAX_VALUE), 100);
        shorter.go(9);
        Check.due("no beat is heard", shorter.judge(2, 3), -5);
        Check.due("no beat is heard, below 0", shorter.judge(2, -1), -5);
        Check.due("no beat is heard, nothing there", shorter.judge(1, 0), -5);
    }

    private static void promise24Refused() {
        WatchBeats x = Watches.scripted();
        WatchBeats still = Watches.idle();
        for (int tape : new int[] {-1, 6, Integer.MIN_VALUE, Integer.MAX_VALUE}) {
            Check.due("judge of no such tape", x.judge(tape, 0), WatchBeats.NONE);
            Check.due("NONE goes ahead of -5", still.judge(tape, 0), WatchBeats.NONE);
        }
        for (int sort : new int[] {0, 2, 3, 4}) {
            x.tape(0, sort, 9);
            still.tape(0, sort, 9);
            Check.due("no row of shorts", x.judge(0, 0), -12);
            Check.due("no row of shorts, no such place", x.judge(0, -1), -12);
            Check.due("CAST goes ahead of -5", still.judge(0, 0), -12);
        }
        x.tape(0, -1, 0);
        Check.due("nothing there is no CAST", x.judge(0, 0), 100);
        x.tape(5, 1, 60);
        Check.due("the last tape", x.judge(5, 0), 1);
    }

    private static void promise27() {
        WatchBeats x = new WatchBeats();
        x.see(1, 1);
        x.book(1, 1);
        x.book(1, 1);
        Watches.feed(x, "a1;");
        Check.due("seen", x.count(0), 1);
        Check.due("booked", x.count(1), 2);
        Check.due("bytes", x.count(2), 3);
        for (int what : new int[] {-1, 3, Integer.MIN_VALUE, Integer.MAX_VALUE}) {
            Check.due("count of no such what", x.count(what), WatchBeats.BAD);
        }
    }
}
