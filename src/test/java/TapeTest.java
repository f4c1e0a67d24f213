/** Promises 28 to 30: tapes and their items. */
public final class TapeTest {
    private static final int NOTHING = -11, PLACE = -13, SIZE = -14;

    public static void main(String[] args) {
        tapesTaken();
        sizesTaken();
        allZero();
        holdsNothingThen();
        tapeRefused();
        sortRefused();
        aboveSixty();
        sizeBelowZero();
        orderOfRefusals();
        itemTaken();
        lowestBits();
        booleans();
        itemOfNoTape();
        itemOfNothing();
        itemOfNoPlace();
        orderOfItem();
        peekTaken();
        peekRefused();
        Check.end();
    }

    private static long shownAs(int sort, long v) {
        WatchBeats x = new WatchBeats();
        x.tape(0, sort, 1);
        x.item(0, 0, v);
        return x.peek(0, 0);
    }

    private static void tapesTaken() {
        Check.sentence("3",
            "TAPES 0 .. 5 hold nothing (at first), or a row of 0 bytes, 1 shorts, 2 ints, 3 longs, 4 booleans");
        for (int tape = 0; tape <= 5; tape++) {
            for (int sort = 0; sort <= 4; sort++) {
                WatchBeats x = new WatchBeats();
                Check.due("tape(" + tape + ", " + sort + ", 3)", x.tape(tape, sort, 3), 1);
                for (int other = 0; other <= 5; other++) {
                    Check.due("peek(" + other + ", 2)", x.peek(other, 2), other == tape ? 0 : WatchBeats.NO);
                }
            }
        }
        long[][] shown = {{2, 2, 2, 2, 2, 1}, {257, 1, 257, 257, 257, 1}, {65537, 1, 1, 65537, 65537, 1},
            {4294967297L, 1, 1, 1, 4294967297L, 1}};
        for (long[] row : shown) {
            for (int sort = 0; sort <= 4; sort++) {
                Check.due(row[0] + " in a row of sort " + sort, shownAs(sort, row[0]), row[1 + sort]);
            }
        }
    }

    private static void sizesTaken() {
        Check.sentence("Promise 28", "A TAPE becomes a row of n (0 .. 60) of a sort");
        for (int sort = 0; sort <= 4; sort++) {
            for (int n : Values.atBounds(0, 60)) {
                WatchBeats x = new WatchBeats();
                Check.due("tape(5, " + sort + ", " + n + ")", x.tape(5, sort, n), 1);
                Check.due("its last item", x.peek(5, n - 1), n == 0 ? WatchBeats.NO : 0);
                Check.due("behind its last item", x.peek(5, n), WatchBeats.NO);
                Check.due("its last item becomes another", x.item(5, n - 1, 1), n == 0 ? PLACE : 1);
                Check.due("one behind it doesn't", x.item(5, n, 1), PLACE);
            }
        }
    }

    private static void allZero() {
        Check.sentence("Promise 28", "all 0");
        WatchBeats x = new WatchBeats();
        x.tape(0, 3, 60);
        for (int i = 0; i < 60; i++) {
            x.item(0, i, -1 - i);
        }
        x.tape(0, 3, 1);
        x.tape(0, 3, 60);
        for (int i = 0; i < 60; i++) {
            Check.due("peek(0, " + i + ")", x.peek(0, i), 0);
        }
    }

    private static void holdsNothingThen() {
        Check.sentence("Promise 28", "or holds nothing (sort -1: n does not matter): 1.");
        for (int n : new int[] {0, 1, 60, 61, -1, Integer.MIN_VALUE, Integer.MAX_VALUE}) {
            WatchBeats x = new WatchBeats();
            x.tape(0, 1, 2);
            Check.due("tape(0, -1, " + n + ")", x.tape(0, -1, n), 1);
            Check.due("peek(0, 0)", x.peek(0, 0), WatchBeats.NO);
            Check.due("item(0, 0, 1)", x.item(0, 0, 1), NOTHING);
            Check.due("again", x.tape(0, -1, n), 1);
        }
    }

    private static void tapeRefused() {
        Check.sentence("Promise 28", "NONE: tape");
        for (int tape : Values.outside(0, 5)) {
            for (int sort = -1; sort <= 4; sort++) {
                int of = sort;
                Still.refused("tape(" + tape + ", " + sort + ", 1)", WatchBeats.NONE, x -> x.tape(tape, of, 1));
            }
        }
    }

    private static void sortRefused() {
        Check.sentence("Promise 28", "BAD: sort");
        for (int sort : Values.outside(-1, 4)) {
            for (int tape = 0; tape <= 5; tape++) {
                int of = tape;
                Still.refused("tape(" + tape + ", " + sort + ", 1)", WatchBeats.BAD, x -> x.tape(of, sort, 1));
            }
        }
    }

    private static void aboveSixty() {
        Check.sentence("Promise 28", "BAD: sort, n above 60");
        for (int n : Values.outside(Integer.MIN_VALUE, 60)) {
            for (int sort = 0; sort <= 4; sort++) {
                int of = sort;
                Still.refused("tape(0, " + sort + ", " + n + ")", WatchBeats.BAD, x -> x.tape(0, of, n));
            }
        }
    }

    private static void sizeBelowZero() {
        Check.sentence("3", "SIZE (-14): a size below 0");
        for (int n : Values.outside(0, Integer.MAX_VALUE)) {
            for (int sort = 0; sort <= 4; sort++) {
                int of = sort;
                Still.refused("tape(0, " + sort + ", " + n + ")", SIZE, x -> x.tape(0, of, n));
            }
        }
    }

    private static void orderOfRefusals() {
        Check.sentence("Promise 28", "NONE: tape; BAD: sort, n above 60; SIZE.");
        for (int tape : Values.outside(0, 5)) {
            Still.refusedIn(Start.FULL, "tape(" + tape + ", 9, 61)", WatchBeats.NONE, x -> x.tape(tape, 9, 61));
            Still.refusedIn(Start.FULL, "tape(" + tape + ", 0, -1)", WatchBeats.NONE, x -> x.tape(tape, 0, -1));
        }
        for (int sort : Values.outside(-1, 4)) {
            Still.refusedIn(Start.FULL, "tape(0, " + sort + ", -1)", WatchBeats.BAD, x -> x.tape(0, sort, -1));
            Still.refusedIn(Start.FULL, "tape(0, " + sort + ", min)", WatchBeats.BAD,
                x -> x.tape(0, sort, Integer.MIN_VALUE));
        }
    }

    private static void itemTaken() {
        Check.sentence("Promise 29", "Item i of a TAPE becomes v");
        for (int tape = 0; tape <= 5; tape++) {
            WatchBeats x = new WatchBeats();
            x.tape(tape, 3, 60);
            for (int i : Values.atBounds(0, 59)) {
                Check.due("item(" + tape + ", " + i + ", 7)", x.item(tape, i, 7), 1);
                Check.due("peek(" + tape + ", " + i + ")", x.peek(tape, i), 7);
                Check.due("the other end stays", x.peek(tape, 30), 0);
                x.item(tape, i, 0);
            }
        }
    }

    private static void bitsDue(int sort, long[][] rows) {
        WatchBeats x = new WatchBeats();
        x.tape(0, sort, 3);
        for (long[] row : rows) {
            Check.due("item(0, 1, " + row[0] + ") of sort " + sort, x.item(0, 1, row[0]), 1);
            Check.due("it is then", x.peek(0, 1), row[1]);
            Check.due("the one ahead stays", x.peek(0, 0), 0);
            Check.due("the one behind stays", x.peek(0, 2), 0);
        }
    }

    private static void lowestBits() {
        Check.sentence("Promise 29", "(its lowest bits, as many as an item has;");
        long min = Long.MIN_VALUE;
        long max = Long.MAX_VALUE;
        bitsDue(0, new long[][] {{127, 127}, {128, -128}, {-128, -128}, {-129, 127}, {255, -1}, {256, 0}, {257, 1},
            {-256, 0}, {min, 0}, {max, -1}, {0, 0}, {-1, -1}});
        bitsDue(1, new long[][] {{32767, 32767}, {32768, -32768}, {-32768, -32768}, {-32769, 32767}, {65535, -1},
            {65536, 0}, {65537, 1}, {-65536, 0}, {min, 0}, {max, -1}, {0, 0}, {-1, -1}});
        bitsDue(2, new long[][] {{2147483647L, 2147483647L}, {2147483648L, -2147483648L}, {-2147483648L, -2147483648L},
            {-2147483649L, 2147483647L}, {4294967295L, -1}, {4294967296L, 0}, {4294967297L, 1}, {min, 0}, {max, -1},
            {0, 0}, {-1, -1}});
        bitsDue(3, new long[][] {{max, max}, {min + 1, min + 1}, {4294967296L, 4294967296L}, {0, 0}, {-1, -1},
            {min, min}});
    }

    private static void booleans() {
        Check.sentence("Promise 29", "booleans: whether v is not 0");
        bitsDue(4, new long[][] {{1, 1}, {0, 0}, {2, 1}, {-1, 1}, {256, 1}, {65536, 1}, {4294967296L, 1},
            {Long.MIN_VALUE, 1}, {Long.MAX_VALUE, 1}, {0, 0}});
    }

    private static void itemOfNoTape() {
        Check.sentence("Promise 29", "NONE;");
        for (int tape : Values.outside(0, 5)) {
            Still.refused("item(" + tape + ", 0, 1)", WatchBeats.NONE, x -> x.item(tape, 0, 1));
        }
    }

    private static void itemOfNothing() {
        Check.sentence("3", "NOTHING (-11): nothing is there");
        for (int i : new int[] {0, 1, 59, 60, -1, Integer.MIN_VALUE, Integer.MAX_VALUE}) {
            for (int tape = 0; tape <= 5; tape++) {
                int of = tape;
                Still.refusedIn(Start.NEW, "item(" + tape + ", " + i + ", 1)", NOTHING, x -> x.item(of, i, 1));
            }
            Still.refused("item(5, " + i + ", 1)", NOTHING, x -> x.item(5, i, 1));
        }
    }

    private static void itemOfNoPlace() {
        Check.sentence("3", "PLACE (-13): no such place");
        int[] sizes = {3, 2, 4, 2, 2};
        for (int tape = 0; tape < sizes.length; tape++) {
            int of = tape;
            for (int i : Values.outside(0, sizes[tape] - 1)) {
                Still.refusedIn(Start.FULL, "item(" + tape + ", " + i + ", 1)", PLACE, x -> x.item(of, i, 1));
            }
        }
        for (int n : Values.atBounds(0, 60)) {
            for (int i : Values.outside(0, n - 1)) {
                WatchBeats x = new WatchBeats();
                x.tape(0, 2, n);
                Check.due("of " + n + ": item(0, " + i + ", 1)", x.item(0, i, 1), PLACE);
            }
        }
    }

    private static void orderOfItem() {
        Check.sentence("Promise 29", "NONE; NOTHING; PLACE.");
        Check.due("no such TAPE, no such place", new WatchBeats().item(6, -1, 1), WatchBeats.NONE);
        Check.due("nothing there, no such place", new WatchBeats().item(5, -1, 1), NOTHING);
    }

    private static void peekTaken() {
        Check.sentence("Promise 30", "Item i of a TAPE.");
        WatchBeats x = new WatchBeats();
        x.tape(5, 3, 60);
        x.item(5, 0, Long.MAX_VALUE);
        x.item(5, 59, -7);
        Check.due("the first", x.peek(5, 0), Long.MAX_VALUE);
        Check.due("the last", x.peek(5, 59), -7);
        Check.due("one between", x.peek(5, 30), 0);
    }

    private static void peekRefused() {
        Check.sentence("Promise 30", "NO: no such TAPE, nothing there, no such place.");
        for (int tape : Values.outside(0, 5)) {
            Still.refused("peek(" + tape + ", 0)", WatchBeats.NO, x -> x.peek(tape, 0));
        }
        for (int i : new int[] {0, 1, -1, 60, Integer.MIN_VALUE, Integer.MAX_VALUE}) {
            Still.refused("peek(5, " + i + ")", WatchBeats.NO, x -> x.peek(5, i));
        }
        for (int i : Values.outside(0, 2)) {
            Still.refusedIn(Start.FULL, "peek(0, " + i + ")", WatchBeats.NO, x -> x.peek(0, i));
        }
        for (int i : Values.outside(0, 59)) {
            WatchBeats x = new WatchBeats();
            x.tape(0, 3, 60);
            Check.due("of 60: peek(0, " + i + ")", x.peek(0, i), WatchBeats.NO);
            x.tape(0, 3, 0);
            Check.due("of none: peek(0, " + i + ")", x.peek(0, i), WatchBeats.NO);
        }
    }
}
