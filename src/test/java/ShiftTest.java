/** Promise 31: items that come from one tape to another, or to the same. */
public final class ShiftTest {
    private static final int NOTHING = -11, CAST = -12, PLACE = -13;
    private static final int MAX = Integer.MAX_VALUE, MIN = Integer.MIN_VALUE;

    public static void main(String[] args) {
        toAnother();
        upToBothEnds();
        noneAtAll();
        asTheyWereBefore();
        likeSorts();
        tapesRefused();
        nothingThere();
        unlikeSorts();
        placesBelowZero();
        placesBeyondEnds();
        sumsThatWrap();
        orderOfRefusals();
        Check.end();
    }

    /** TAPE 0 holds ints 10 .. 15, TAPE 1 four ints, TAPE 2 six shorts, TAPE 3 no ints, the others nothing. */
    private static WatchBeats filled() {
        WatchBeats x = new WatchBeats();
        x.tape(0, 2, 6);
        x.tape(1, 2, 4);
        x.tape(2, 1, 6);
        x.tape(3, 2, 0);
        for (int i = 0; i < 6; i++) {
            x.item(0, i, 10 + i);
        }
        return x;
    }

    private static void itemsDue(String when, WatchBeats x, int tape, long... want) {
        for (int i = 0; i < want.length; i++) {
            Check.due(when + ": peek(" + tape + ", " + i + ")", x.peek(tape, i), want[i]);
        }
        Check.due(when + ": its end", x.peek(tape, want.length), WatchBeats.NO);
    }

    private static void toAnother() {
        Check.sentence("Promise 31", "n items of a TAPE from i on come to another one (or the same) from j on");
        WatchBeats x = filled();
        Check.due("two of them", x.shift(0, 1, 1, 2, 2), 2);
        itemsDue("they come", x, 1, 0, 0, 11, 12);
        itemsDue("they stay where they were", x, 0, 10, 11, 12, 13, 14, 15);
        Check.due("one of them", x.shift(0, 5, 1, 0, 1), 1);
        itemsDue("it comes", x, 1, 15, 0, 11, 12);
        Check.due("back", x.shift(1, 0, 0, 1, 4), 4);
        itemsDue("they come", x, 0, 10, 15, 0, 11, 12, 15);
    }

    private static void upToBothEnds() {
        Check.sentence("Promise 31", "or beyond either's end");
        WatchBeats x = filled();
        Check.due("the last of one", x.shift(0, 5, 1, 3, 1), 1);
        itemsDue("to the last of the other", x, 1, 0, 0, 0, 15);
        Check.due("four to the whole", x.shift(0, 2, 1, 0, 4), 4);
        itemsDue("all of it", x, 1, 12, 13, 14, 15);
        Check.due("the whole to the end", x.shift(1, 0, 0, 2, 4), 4);
        itemsDue("all of it", x, 0, 10, 11, 12, 13, 14, 15);
        WatchBeats sixty = new WatchBeats();
        sixty.tape(4, 0, 60);
        sixty.tape(5, 0, 60);
        for (int i = 0; i < 60; i++) {
            sixty.item(4, i, i);
        }
        Check.due("sixty", sixty.shift(4, 0, 5, 0, 60), 60);
        Check.due("the first", sixty.peek(5, 1), 1);
        Check.due("the last", sixty.peek(5, 59), 59);
    }

    private static void noneAtAll() {
        Check.sentence("Promise 31", "PLACE: n, i or j is below 0, or beyond either's end.");
        int[][] taken = {{0, 0}, {6, 0}, {0, 4}, {6, 4}, {3, 2}};
        for (int[] places : taken) {
            Still.refusedBy("none from " + places[0] + " to " + places[1], ShiftTest::filled, 0,
                x -> x.shift(0, places[0], 1, places[1], 0));
        }
        Still.refusedBy("none of an empty row", ShiftTest::filled, 0, x -> x.shift(3, 0, 0, 6, 0));
        Still.refusedBy("none to itself", ShiftTest::filled, 0, x -> x.shift(0, 6, 0, 6, 0));
    }

    private static void asTheyWereBefore() {
        Check.sentence("Promise 31", "as they all were before: n.");
        WatchBeats x = filled();
        Check.due("onward in itself", x.shift(0, 0, 0, 2, 4), 4);
        itemsDue("onward", x, 0, 10, 11, 10, 11, 12, 13);
        WatchBeats y = filled();
        Check.due("back in itself", y.shift(0, 2, 0, 0, 4), 4);
        itemsDue("back", y, 0, 12, 13, 14, 15, 14, 15);
        WatchBeats z = filled();
        Check.due("onward by one", z.shift(0, 0, 0, 1, 5), 5);
        itemsDue("onward by one", z, 0, 10, 10, 11, 12, 13, 14);
        WatchBeats same = filled();
        Check.due("to where they are", same.shift(0, 0, 0, 0, 6), 6);
        itemsDue("to where they are", same, 0, 10, 11, 12, 13, 14, 15);
    }

    private static void likeSorts() {
        Check.sentence("Promise 31", "CAST: of unlike sorts");
        long[] shown = {-128, -32640, -2147450752L, 1L << 40 | 1L << 31 | 1L << 15 | 1L << 7, 1};
        for (int sort = 0; sort <= 4; sort++) {
            WatchBeats x = new WatchBeats();
            x.tape(0, sort, 3);
            x.tape(5, sort, 2);
            x.item(0, 2, shown[3]);
            Check.due("of sort " + sort, x.shift(0, 2, 5, 1, 1), 1);
            itemsDue("of sort " + sort, x, 5, 0, shown[sort]);
        }
    }

    private static void tapesRefused() {
        Check.sentence("Promise 31", "NONE: tapes");
        for (int tape : Values.outside(0, 5)) {
            Still.refused("shift(" + tape + ", 0, 0, 0, 0)", WatchBeats.NONE, x -> x.shift(tape, 0, 0, 0, 0));
            Still.refused("shift(0, 0, " + tape + ", 0, 0)", WatchBeats.NONE, x -> x.shift(0, 0, tape, 0, 0));
            Still.refused("shift of both " + tape, WatchBeats.NONE, x -> x.shift(tape, 0, tape, 0, 0));
        }
    }

    private static void nothingThere() {
        Check.sentence("Promise 31", "NOTHING;");
        for (int n : new int[] {0, 1, -1, MIN, MAX}) {
            Still.refused("shift(5, 0, 0, 0, " + n + ")", NOTHING, x -> x.shift(5, 0, 0, 0, n));
            Still.refused("shift(0, 0, 5, 0, " + n + ")", NOTHING, x -> x.shift(0, 0, 5, 0, n));
            Still.refused("shift(5, 0, 5, 0, " + n + ")", NOTHING, x -> x.shift(5, 0, 5, 0, n));
        }
    }

    private static void unlikeSorts() {
        Check.sentence("3", "CAST (-12): another sort");
        for (int from = 0; from <= 4; from++) {
            for (int to = 0; to <= 4; to++) {
                WatchBeats x = Start.FULL.watch();
                int want = from == to ? 0 : CAST;
                Check.due("shift(" + from + ", 0, " + to + ", 0, 0)", x.shift(from, 0, to, 0, 0), want);
            }
        }
        Still.refusedIn(Start.FULL, "shift(0, 0, 1, 0, 1)", CAST, x -> x.shift(0, 0, 1, 0, 1));
        Still.refusedIn(Start.FULL, "shift(3, 0, 2, 0, 2)", CAST, x -> x.shift(3, 0, 2, 0, 2));
    }

    private static void placeDue(int i, int j, int n) {
        Still.refusedBy("shift(0, " + i + ", 1, " + j + ", " + n + ")", ShiftTest::filled, PLACE,
            x -> x.shift(0, i, 1, j, n));
        Still.refusedBy("shift(1, " + j + ", 0, " + i + ", " + n + ")", ShiftTest::filled, PLACE,
            x -> x.shift(1, j, 0, i, n));
    }

    private static void placesBelowZero() {
        Check.sentence("Promise 31", "n, i or j is below 0");
        for (int below : new int[] {-1, -2, MIN + 1, MIN}) {
            placeDue(below, 0, 0);
            placeDue(below, 0, 1);
            placeDue(0, below, 0);
            placeDue(0, below, 1);
            placeDue(0, 0, below);
            placeDue(below, below, 1);
            placeDue(1, 1, below);
        }
        placeDue(-1, 0, 2);
        placeDue(6, 4, -1);
    }

    private static void placesBeyondEnds() {
        Check.sentence("Promise 31", "or beyond either's end");
        placeDue(6, 0, 1);
        placeDue(0, 4, 1);
        placeDue(7, 0, 0);
        placeDue(0, 5, 0);
        placeDue(3, 0, 4);
        placeDue(0, 1, 4);
        placeDue(0, 0, 5);
        placeDue(0, 0, 61);
        placeDue(59, 0, 1);
        Still.refusedBy("one of an empty row", ShiftTest::filled, PLACE, x -> x.shift(3, 0, 0, 0, 1));
        Still.refusedBy("one to an empty row", ShiftTest::filled, PLACE, x -> x.shift(0, 0, 3, 0, 1));
        Still.refusedBy("onward in itself", ShiftTest::filled, PLACE, x -> x.shift(0, 0, 0, 3, 4));
    }

    private static void sumsThatWrap() {
        Check.sentence("Promise 31", "PLACE: n, i or j is below 0, or beyond either's end.");
        placeDue(MAX, 0, 0);
        placeDue(MAX, 0, 1);
        placeDue(0, MAX, 1);
        placeDue(0, 0, MAX);
        placeDue(1, 1, MAX);
        placeDue(2, 2, MAX - 1);
        placeDue(MAX, MAX, MAX);
        placeDue(MAX, MAX, 2);
        placeDue(MAX, 0, MIN);
        placeDue(MIN, MIN, MIN);
        placeDue(MIN, 0, MIN);
        placeDue(0, 0, MIN);
        placeDue(5, 3, MAX - 3);
    }

    private static void orderOfRefusals() {
        Check.sentence("Promise 31", "NONE: tapes; NOTHING; CAST: of unlike sorts; PLACE");
        Check.due("no such TAPE, nothing in the other", filled().shift(6, 0, 5, 0, 1), WatchBeats.NONE);
        Check.due("nothing, no such other TAPE", filled().shift(5, 0, 6, 0, 1), WatchBeats.NONE);
        Check.due("no such TAPE, no such place", filled().shift(0, -1, 6, 0, 1), WatchBeats.NONE);
        Check.due("nothing, no such place", filled().shift(0, -1, 5, 0, 1), NOTHING);
        Check.due("nothing, a size below 0", filled().shift(5, 0, 2, 0, -1), NOTHING);
        Check.due("of unlike sorts, no such place", filled().shift(0, -1, 2, 0, 1), CAST);
        Check.due("of unlike sorts, a size below 0", filled().shift(0, 0, 2, 0, -1), CAST);
        Check.due("of unlike sorts, far beyond", filled().shift(2, MAX, 0, MAX, MAX), CAST);
    }
}
