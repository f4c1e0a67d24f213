/** Promises 28 to 31: tapes, their items, and items that come to others. */
public final class TapeTest {
    private static final int NOTHING = -11, CAST = -12, PLACE = -13, SIZE = -14;
    private static final int[] NO_TAPES = {-1, 6, Integer.MIN_VALUE, Integer.MAX_VALUE};

    public static void main(String[] args) {
        promise28();
        promise29();
        promise30();
        promise31();
        promise31Refused();
        Check.end();
    }

    private static void promise28() {
        WatchBeats x = new WatchBeats();
        for (int tape : NO_TAPES) {
            Check.due("no such tape", x.tape(tape, 0, 1), WatchBeats.NONE);
            Check.due("NONE goes ahead of BAD", x.tape(tape, 9, 99), WatchBeats.NONE);
        }
        for (int sort : new int[] {-2, 5, Integer.MIN_VALUE, Integer.MAX_VALUE}) {
            Check.due("no such sort", x.tape(0, sort, 1), WatchBeats.BAD);
            Check.due("BAD goes ahead of SIZE", x.tape(0, sort, -1), WatchBeats.BAD);
        }
        Check.due("too great", x.tape(0, 0, 61), WatchBeats.BAD);
        Check.due("far too great", x.tape(0, 0, Integer.MAX_VALUE), WatchBeats.BAD);
        Check.due("below 0", x.tape(0, 0, -1), SIZE);
        Check.due("far below 0", x.tape(0, 0, Integer.MIN_VALUE), SIZE);
        Check.due("nothing came", x.peek(0, 0), Watches.NO);
        for (int tape = 0; tape < 6; tape++) {
            Check.due("the most", x.tape(tape, tape % 5, 60), 1);
            Check.due("its last item", x.peek(tape, 59), 0);
            Check.due("behind its last item", x.peek(tape, 60), Watches.NO);
        }
        x.item(0, 0, 6);
        x.item(0, 59, 7);
        Check.due("refused, it stays", x.tape(0, 0, 61), WatchBeats.BAD);
        Check.due("refused, it stays", x.peek(0, 59), 7);
        Check.due("anew", x.tape(0, 3, 60), 1);
        Check.due("all 0, the first", x.peek(0, 0), 0);
        Check.due("all 0, the last", x.peek(0, 59), 0);
        Check.due("an empty row", x.tape(0, 0, 0), 1);
        Check.due("no place in it", x.item(0, 0, 1), PLACE);
        for (int n : new int[] {0, 61, -1, Integer.MIN_VALUE}) {
            x.tape(0, 0, 2);
            Check.due("holds nothing then", x.tape(0, -1, n), 1);
            Check.due("nothing there", x.item(0, 0, 1), NOTHING);
        }
    }

    private static void promise29() {
        WatchBeats x = new WatchBeats();
        for (int tape : NO_TAPES) {
            Check.due("no such tape", x.item(tape, 0, 1), WatchBeats.NONE);
        }
        Check.due("nothing there", x.item(0, -1, 1), NOTHING);
        long[] put = {0, 1, -1, 127, 128, 255, 256, 32768, 65535, 1L << 31, 1L << 32, Long.MIN_VALUE, Long.MAX_VALUE};
        for (int sort = 0; sort < 5; sort++) {
            x.tape(0, sort, 3);
            for (int i : new int[] {-1, 3, 60, Integer.MIN_VALUE, Integer.MAX_VALUE}) {
                Check.due("no such place", x.item(0, i, 1), PLACE);
            }
            for (long v : put) {
                long[] due = {(byte) v, (short) v, (int) v, v, v != 0 ? 1 : 0};
                Check.due("item", x.item(0, 2, v), 1);
                Check.due("item " + v + " of sort " + sort, x.peek(0, 2), due[sort]);
                Check.due("the one ahead stays", x.peek(0, 1), 0);
            }
        }
    }

    private static void promise30() {
        WatchBeats x = new WatchBeats();
        for (int tape : NO_TAPES) {
            Check.due("no such tape", x.peek(tape, 0), Watches.NO);
        }
        Check.due("nothing there", x.peek(1, 0), Watches.NO);
        x.tape(1, 3, 2);
        x.item(1, 1, Long.MAX_VALUE);
        Check.due("an item", x.peek(1, 1), Long.MAX_VALUE);
        for (int i : new int[] {-1, 2, 60, Integer.MIN_VALUE, Integer.MAX_VALUE}) {
            Check.due("no such place", x.peek(1, i), Watches.NO);
        }
    }

    private static WatchBeats filled() {
        WatchBeats x = new WatchBeats();
        x.tape(0, 2, 6);
        x.tape(1, 2, 4);
        x.tape(2, 1, 6);
        for (int i = 0; i < 6; i++) {
            x.item(0, i, 10 + i);
        }
        return x;
    }

    private static void itemsDue(String when, WatchBeats x, int tape, long... want) {
        for (int i = 0; i < want.length; i++) {
            Check.due(when + ": item " + i, x.peek(tape, i), want[i]);
        }
    }

    private static void promise31() {
        WatchBeats x = filled();
        Check.due("to another", x.shift(0, 1, 1, 2, 2), 2);
        itemsDue("to another", x, 1, 0, 0, 11, 12);
        itemsDue("they stay where they were", x, 0, 10, 11, 12, 13, 14, 15);
        Check.due("onward in itself", x.shift(0, 0, 0, 2, 4), 4);
        itemsDue("onward, as they all were before", x, 0, 10, 11, 10, 11, 12, 13);
        Check.due("back in itself", x.shift(0, 1, 0, 0, 5), 5);
        itemsDue("back, as they all were before", x, 0, 11, 10, 11, 12, 13, 13);
        Check.due("none", x.shift(0, 0, 1, 0, 0), 0);
        Check.due("none, behind both ends", x.shift(0, 6, 1, 4, 0), 0);
        Check.due("all", x.shift(1, 0, 0, 2, 4), 4);
        itemsDue("all", x, 0, 11, 10, 0, 0, 11, 12);
    }

    private static void promise31Refused() {
        WatchBeats x = filled();
        for (int tape : NO_TAPES) {
            Check.due("no such tape", x.shift(tape, 0, 0, 0, 1), WatchBeats.NONE);
            Check.due("no such other", x.shift(0, 0, tape, 0, 1), WatchBeats.NONE);
            Check.due("NONE goes ahead of NOTHING", x.shift(3, 0, tape, 0, 1), WatchBeats.NONE);
        }
        Check.due("nothing there", x.shift(3, 0, 0, 0, 1), NOTHING);
        Check.due("nothing in the other", x.shift(0, 0, 3, 0, 1), NOTHING);
        Check.due("NOTHING goes ahead of PLACE", x.shift(0, -1, 3, 0, 1), NOTHING);
        Check.due("nothing in both", x.shift(3, 0, 3, 0, 0), NOTHING);
        Check.due("of unlike sorts", x.shift(0, 0, 2, 0, 1), CAST);
        Check.due("CAST goes ahead of PLACE", x.shift(0, 0, 2, 0, -1), CAST);
        int max = Integer.MAX_VALUE;
        int min = Integer.MIN_VALUE;
        int[][] places = {{-1, 0, 1}, {0, -1, 1}, {0, 0, -1}, {6, 0, 1}, {0, 4, 1}, {7, 0, 0}, {0, 5, 0}, {2, 0, 5},
            {0, 1, 4}, {0, 0, 5}, {max, 0, 1}, {0, max, 1}, {0, 0, max}, {1, 1, max}, {max, max, max}, {min, 0, 1},
            {0, min, 1}, {0, 0, min}, {min, min, min}, {max, 0, 0}};
        for (int[] p : places) {
            Check.due("no such place", x.shift(0, p[0], 1, p[1], p[2]), PLACE);
        }
        itemsDue("refused", x, 0, 10, 11, 12, 13, 14, 15);
        itemsDue("refused", x, 1, 0, 0, 0, 0);
    }
}
