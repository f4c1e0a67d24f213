/** Promise 24: beats heard told by a row of shorts, and judged. */
public final class JudgeTest {
    private static final int CAST = -12;

    public static void main(String[] args) {
        allAreSo();
        firstThatIsOtherwise();
        countedFromThatPlace();
        sixteenBits();
        rowEndsAhead();
        rowEndsWithTheBeats();
        placeBelowZero();
        placeBeyondTheEnd();
        holdsNothing();
        noBeatsHeard();
        longestRow();
        tapeRefused();
        castRefused();
        Check.end();
    }

    private static WatchBeats row(int size, int place, int... items) {
        WatchBeats x = Watches.scripted();
        x.tape(2, 1, size);
        for (int i = 0; i < items.length; i++) {
            x.item(2, place + i, items[i]);
        }
        return x;
    }

    private static void allAreSo() {
        Check.sentence("3", "are JUDGED: the first that is otherwise (counted from 0 from that place on); -5: none");
        Check.due("all five", row(20, 3, 0, 1, 2, 4, 8, 77).judge(2, 3), -5);
        Check.due("from the first place", row(20, 0, 0, 1, 2, 4, 8).judge(2, 0), -5);
        WatchBeats one = row(9, 4, 3);
        one.go(5);
        Check.due("one BEAT", one.judge(2, 4), -5);
    }

    private static void firstThatIsOtherwise() {
        Check.sentence("3", "the first that is otherwise");
        for (int k = 0; k < 5; k++) {
            WatchBeats x = row(20, 3, 0, 1, 2, 4, 8);
            x.item(2, 3 + k, 99);
            Check.due("BEAT " + k + " is otherwise", x.judge(2, 3), k);
            x.item(2, 7, 98);
            Check.due("the first of two", x.judge(2, 3), k);
        }
        Check.due("-5 isn't a BEAT that is missing", row(20, 3, 0, 1, 2, 4, 8, -5).judge(2, 3), -5);
    }

    private static void countedFromThatPlace() {
        Check.sentence("3", "(counted from 0 from that place on)");
        WatchBeats x = row(20, 10, 0, 1, 2, 4, 9);
        Check.due("from 10 on", x.judge(2, 10), 4);
        Check.due("from 9 on", x.judge(2, 9), 1);
        Check.due("from 11 on", x.judge(2, 11), 0);
        Check.due("from 0 on", x.judge(2, 0), 1);
    }

    private static void sixteenBits() {
        Check.sentence("3", "BEATS HEARD told by a row of shorts");
        WatchBeats x = Watches.scripted();
        x.tape(2, 1, 9);
        long[] told = {65536, 65537, -65534, 4 + (1L << 40), 8 - (1L << 60)};
        for (int i = 0; i < told.length; i++) {
            x.item(2, i, told[i]);
        }
        Check.due("their lowest bits alone", x.judge(2, 0), -5);
    }

    private static void rowEndsAhead() {
        Check.sentence("3", "100 and how many were looked at, if the row ends ahead of that");
        Check.due("four of five", row(7, 3, 0, 1, 2, 4).judge(2, 3), 104);
        Check.due("one of five", row(4, 3, 0).judge(2, 3), 101);
        Check.due("an empty row", row(0, 0).judge(2, 0), 100);
        Check.due("otherwise ahead of its end", row(7, 3, 0, 1, 3, 4).judge(2, 3), 2);
        Check.due("the last of the row is otherwise", row(7, 3, 0, 1, 2, 5).judge(2, 3), 3);
    }

    private static void rowEndsWithTheBeats() {
        Check.sentence("3", "if the row ends ahead of that");
        Check.due("it ends with the last BEAT", row(8, 3, 0, 1, 2, 4, 8).judge(2, 3), -5);
        Check.due("the last of both is otherwise", row(8, 3, 0, 1, 2, 4, 9).judge(2, 3), 4);
    }

    private static void placeBelowZero() {
        Check.sentence("3", "(or the place is below 0, or the TAPE holds nothing)");
        WatchBeats x = row(20, 0, 0, 1, 2, 4, 8);
        for (int place : new int[] {-1, -2, -20, Integer.MIN_VALUE + 1, Integer.MIN_VALUE}) {
            Check.due("judge(2, " + place + ")", x.judge(2, place), 100);
        }
    }

    private static void placeBeyondTheEnd() {
        Check.sentence("3", "if the row ends ahead of that (or the place is below 0");
        WatchBeats x = row(7, 3, 0, 1, 2, 4);
        Check.due("the last place", x.judge(2, 6), 0);
        for (int place : new int[] {7, 8, 59, 60, 61, Integer.MAX_VALUE - 1, Integer.MAX_VALUE}) {
            Check.due("judge(2, " + place + ")", x.judge(2, place), 100);
        }
    }

    private static void holdsNothing() {
        Check.sentence("3", "or the TAPE holds nothing)");
        WatchBeats x = Watches.scripted();
        for (int place : new int[] {0, 1, -1, Integer.MIN_VALUE, Integer.MAX_VALUE}) {
            Check.due("judge(1, " + place + ")", x.judge(1, place), 100);
        }
        x.tape(1, 1, 9);
        Check.due("it holds a row", x.judge(1, 0), 1);
        x.tape(1, -1, 9);
        Check.due("it holds nothing any more", x.judge(1, 0), 100);
        x.tape(1, 0, 9);
        x.tape(1, -1, 9);
        Check.due("nor bytes", x.judge(1, 0), 100);
    }

    private static void noBeatsHeard() {
        Check.sentence("Promise 24", "(-5: no BEATS are HEARD, also if it holds nothing; NONE, CAST go ahead of that)");
        WatchBeats x = Watches.idle();
        x.tape(2, 1, 9);
        x.tape(3, 1, 0);
        for (int place : new int[] {0, 8, 9, -1, Integer.MIN_VALUE, Integer.MAX_VALUE}) {
            Check.due("a row", x.judge(2, place), -5);
            Check.due("an empty row", x.judge(3, place), -5);
            Check.due("nothing", x.judge(4, place), -5);
        }
    }

    private static void longestRow() {
        Check.sentence("3", "one by one, are JUDGED");
        WatchBeats x = Watches.quick(60, 99);
        x.tape(0, 1, 60);
        for (int i = 0; i < 60; i++) {
            x.item(0, i, 4 + 3 * i);
        }
        Check.due("60 of 132", x.judge(0, 0), 160);
        Check.due("none from 1 on", x.judge(0, 1), 0);
        x.item(0, 59, 4);
        Check.due("the 60th is otherwise", x.judge(0, 0), 59);
        Check.due("it is the first BEAT", x.judge(0, 59), 101);
    }

    private static void tapeRefused() {
        Check.sentence("Promise 24", "NONE: tape");
        for (int tape : Values.outside(0, 5)) {
            Still.refused("judge(" + tape + ", 0)", WatchBeats.NONE, x -> x.judge(tape, 0));
            Check.due("ahead of -5: judge(" + tape + ", 0)", Watches.idle().judge(tape, 0), WatchBeats.NONE);
        }
        Check.due("the first TAPE", Watches.scripted().judge(0, 0), 100);
        Check.due("the last TAPE", Watches.scripted().judge(5, 0), 100);
    }

    private static void castRefused() {
        Check.sentence("Promise 24", "CAST: it is no row of shorts.");
        for (int sort : new int[] {0, 2, 3, 4}) {
            for (int size : Values.atBounds(0, 60)) {
                for (int place : new int[] {0, -1, Integer.MIN_VALUE, Integer.MAX_VALUE}) {
                    WatchBeats x = Watches.scripted();
                    x.tape(0, sort, size);
                    Check.due("sort " + sort + ": judge(0, " + place + ")", x.judge(0, place), CAST);
                    WatchBeats still = Watches.idle();
                    still.tape(0, sort, size);
                    Check.due("ahead of -5, sort " + sort, still.judge(0, place), CAST);
                }
            }
        }
        for (int tape = 1; tape <= 4; tape++) {
            int other = tape;
            Still.refusedIn(Start.FULL, "judge(" + tape + ", 0)", CAST, x -> x.judge(other, 0));
        }
    }
}
