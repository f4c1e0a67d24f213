import java.util.Arrays;

/**
 * Promise 15, of EVENEST: which OFFSETS are tried, and by what one goes ahead of the others. Most watches here are
 * moved by hand: a DRAG of 9 takes all SPEED away that a PUSH left behind its TICK.
 */
public final class EvenestTest {
    public static void main(String[] args) {
        asByHand();
        triedUpTo20();
        triedDownToMinus20();
        allAlike();
        mostBeatsFirst();
        leastUneven();
        unevenWithoutSign();
        nearestToOffset();
        ofTwoTheLesser();
        pushedLater();
        Check.end();
    }

    private static WatchBeats rest(int angle, int offset) {
        WatchBeats x = Watches.idle();
        x.set(0, angle);
        x.set(3, 9);
        x.set(4, offset);
        x.set(5, 1);
        return x;
    }

    /** Moves it by so much in that TICK. */
    private static void move(WatchBeats x, int time, int by) {
        x.push(time, 0, by > 0 ? by + 9 : by - 9);
    }

    private static int evenestByHand(WatchBeats x, int offsetNow) {
        int best = 0;
        int[] bestOf = null;
        for (int offset = -20; offset <= 20; offset++) {
            x.set(4, offset);
            int[] of = {-x.beat(0), Math.abs(x.beat(2)), Math.abs(offset - offsetNow)};
            if (bestOf == null || Arrays.compare(of, bestOf) < 0) {
                best = offset;
                bestOf = of;
            }
        }
        x.set(4, offsetNow);
        return best;
    }

    private static void asByHand() {
        Check.sentence("2", "EVENEST: of OFFSETS -20 .. 20 (were OFFSET that now)");
        for (int offset = -20; offset <= 20; offset += 5) {
            for (int stiff = 1; stiff <= 32; stiff += 5) {
                WatchBeats x = Watches.lively();
                x.set(4, offset);
                x.set(2, stiff);
                Check.due("evenest", x.beat(3), evenestByHand(x, offset));
                x.set(6, 99);
                x.set(5, 60);
                Check.due("evenest with a strong spring", x.beat(3), evenestByHand(x, offset));
            }
        }
    }

    private static WatchBeats once(int from, int by, int offset) {
        WatchBeats x = rest(from, offset);
        move(x, 0, by);
        return x;
    }

    private static void triedUpTo20() {
        Check.sentence("2", "of OFFSETS -20 .. 20");
        Check.due("by 20 alone", once(20, 1, 5).beat(3), 20);
        Check.due("by 21 it would be", once(21, 1, 5).beat(3), 5);
        Check.due("by 19 and 20", once(19, 2, 5).beat(3), 19);
        Check.due("by 20, from -20", once(20, 1, -20).beat(3), 20);
    }

    private static void triedDownToMinus20() {
        Check.sentence("2", "of OFFSETS -20 .. 20");
        Check.due("by -20 alone", once(-20, 1, 5).beat(3), -20);
        Check.due("by -21 it would be", once(-21, 1, 5).beat(3), 5);
        Check.due("by -21 and -20", once(-21, 2, 5).beat(3), -20);
        Check.due("by -20, from 20", once(-20, 1, 20).beat(3), -20);
    }

    private static void allAlike() {
        Check.sentence("2", "of several that nearest to OFFSET as it is");
        for (int offset = -20; offset <= 20; offset++) {
            Check.due("no BEAT by any", rest(0, offset).beat(3), offset);
        }
    }

    private static void mostBeatsFirst() {
        Check.sentence("2", "those by which most BEATS are HEARD");
        // By -1 there are BEATS at 0, 2, 7, 10, by 0 and 1 at 7 and 10, by -2 at 0 alone.
        for (int offset = -20; offset <= 20; offset++) {
            WatchBeats x = rest(-2, offset);
            move(x, 0, 2);
            move(x, 2, -2);
            move(x, 7, 4);
            move(x, 10, -4);
            Check.due("four, as uneven as they are, from " + offset, x.beat(3), -1);
        }
        WatchBeats four = rest(-2, -1);
        move(four, 0, 2);
        move(four, 2, -2);
        move(four, 7, 4);
        move(four, 10, -4);
        Check.due("how uneven four are", four.beat(2), -3);
        four.set(4, 1);
        Check.due("how uneven two are", four.beat(2), 0);
    }

    private static void leastUneven() {
        Check.sentence("2", "of these that with the least UNEVEN");
        // By -1 there are BEATS at 0, 2, 7, by 1 at 7, 10, 13.
        for (int offset = -20; offset <= 20; offset++) {
            WatchBeats x = rest(-2, offset);
            move(x, 0, 2);
            move(x, 2, -2);
            move(x, 7, 4);
            move(x, 10, -2);
            move(x, 13, 2);
            Check.due("3 and 3 go ahead of 2 and 5, from " + offset, x.beat(3), 1);
        }
    }

    private static void unevenWithoutSign() {
        Check.sentence("2", "the least UNEVEN, without its sign");
        for (int offset : new int[] {-20, -1, 0, 1, 20}) {
            // By -1 there are BEATS at 0, 2, 9, by 1 at 9, 12, 14.
            WatchBeats less = rest(-2, offset);
            move(less, 0, 2);
            move(less, 2, -2);
            move(less, 9, 4);
            move(less, 12, -2);
            move(less, 14, 2);
            Check.due("1 goes ahead of -5, from " + offset, less.beat(3), 1);
            // By -1 there are BEATS at 0, 7, 9, by 1 at 9, 12, 14.
            WatchBeats more = rest(-2, offset);
            move(more, 0, 2);
            move(more, 7, -2);
            move(more, 9, 4);
            move(more, 11, -2);
            move(more, 14, 2);
            Check.due("-1 goes ahead of 5, from " + offset, more.beat(3), 1);
        }
        WatchBeats x = rest(-2, -1);
        move(x, 0, 2);
        move(x, 7, -2);
        move(x, 9, 4);
        move(x, 11, -2);
        move(x, 14, 2);
        Check.due("by -1", x.beat(2), 5);
        x.set(4, 1);
        Check.due("by 1", x.beat(2), -1);
    }

    private static void nearestToOffset() {
        Check.sentence("2", "of several that nearest to OFFSET as it is");
        // One way from 0 to 9, with a BEAT by each OFFSET from 0 to 8.
        int[][] nearest = {{-20, 0}, {-1, 0}, {0, 0}, {4, 4}, {8, 8}, {9, 8}, {20, 8}};
        for (int[] row : nearest) {
            Check.due("from OFFSET " + row[0], once(0, 9, row[0]).beat(3), row[1]);
        }
    }

    private static WatchBeats twoAlike(int offset) {
        WatchBeats x = rest(-2, offset);
        move(x, 0, 2);
        move(x, 2, -2);
        move(x, 4, 4);
        move(x, 6, -2);
        move(x, 8, 2);
        return x;
    }

    private static void ofTwoTheLesser() {
        Check.sentence("2", "of two the lesser");
        // By -1 there are BEATS at 0, 2, 4, by 1 at 4, 6, 8, by others fewer.
        Check.due("from 0", twoAlike(0).beat(3), -1);
        Check.due("from 1", twoAlike(1).beat(3), 1);
        Check.due("from -1", twoAlike(-1).beat(3), -1);
        Check.due("from 20", twoAlike(20).beat(3), 1);
        Check.due("from -20", twoAlike(-20).beat(3), -1);
        for (int offset : new int[] {-1, 1}) {
            Check.due("BEATS by " + offset, twoAlike(offset).beat(0), 3);
            Check.due("UNEVEN by " + offset, twoAlike(offset).beat(2), 0);
        }
    }

    private static void pushedLater() {
        Check.sentence("2", "an OFFSET, STIFF, SPEED that is tried is so from now on (PUSHES may change it later)");
        WatchBeats x = once(0, 9, 11);
        x.push(0, 2, 3);
        Check.due("a PUSH makes all OFFSETS alike", x.beat(3), 11);
        WatchBeats later = rest(0, 11);
        move(later, 0, 2);
        move(later, 1, -2);
        move(later, 2, 2);
        later.push(1, 2, 20);
        // By 0 and 1 there is a BEAT at 0, then none by 20.
        Check.due("it changes what is tried later alone", later.beat(3), 1);
        Check.due("OFFSET as it is", later.told(4), 11);
    }
}
