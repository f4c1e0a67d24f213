/** Promises 20 and 21: odds and means. */
public final class OddsTest {
    public static void main(String[] args) {
        noneAtLeast();
        ninetyNine();
        elevenSpeeds();
        lowestTerms();
        asByHand();
        pushedLater();
        beatsRefused();
        oddsPartRefused();
        meanOfGaps();
        noMean();
        meanPartRefused();
        Check.end();
    }

    private static void oddsDue(String when, WatchBeats x, int n, long above, long below) {
        Check.due(when + ": odds(" + n + ", 0)", x.odds(n, 0), above);
        Check.due(when + ": odds(" + n + ", 1)", x.odds(n, 1), below);
    }

    private static void noneAtLeast() {
        Check.sentence("2", "ODDS of n (0 .. 99)");
        oddsDue("0 or more are sure", Watches.idle(), 0, 1, 1);
        oddsDue("1 or more never, without FORCE", Watches.idle(), 1, 0, 1);
        oddsDue("0 or more", Watches.quick(1, 1), 0, 1, 1);
        oddsDue("1 or more", Watches.quick(1, 1), 1, 1, 1);
        oddsDue("2 or more", Watches.quick(1, 1), 2, 0, 1);
    }

    private static void ninetyNine() {
        Check.sentence("2", "how likely n BEATS or more are HEARD");
        oddsDue("98 are HEARD", Watches.quick(1, 98), 98, 1, 1);
        oddsDue("98 are HEARD", Watches.quick(1, 98), 99, 0, 1);
        oddsDue("99 are HEARD", Watches.quick(1, 99), 99, 1, 1);
        oddsDue("132 are HEARD", Watches.quick(60, 99), 99, 1, 1);
    }

    /** At rest at 0 with a DRAG of 9, and pushed so at once: it moves up in the first TICK, or doesn't. */
    private static WatchBeats pushedOnce(int by) {
        WatchBeats x = Watches.idle();
        x.set(3, 9);
        x.set(5, 1);
        x.push(0, 0, by);
        return x;
    }

    private static void elevenSpeeds() {
        Check.sentence("2", "were SPEED -20, -16, .. 20 now (eleven), each alike likely");
        // Of -20, -16, .. 20 those go up that are above 9 together with the PUSH.
        int[][] likely = {{-11, 0}, {-10, 1}, {-7, 1}, {-6, 2}, {-3, 2}, {-2, 3}, {2, 4}, {6, 5}, {10, 6}, {14, 7},
            {18, 8}, {22, 9}, {26, 10}, {29, 10}};
        for (int[] row : likely) {
            WatchBeats x = pushedOnce(row[0]);
            oddsDue("pushed by " + row[0], x, 1, row[1], row[1] == 0 ? 1 : 11);
        }
        oddsDue("pushed by 30", pushedOnce(30), 1, 1, 1);
    }

    private static void lowestTerms() {
        Check.sentence("2", "how likely n BEATS or more are HEARD: a fraction in lowest terms");
        oddsDue("none of eleven", pushedOnce(-99), 1, 0, 1);
        oddsDue("all of eleven", pushedOnce(99), 1, 1, 1);
        WatchBeats x = pushedOnce(99);
        x.set(1, 400);
        oddsDue("SPEED as it is doesn't count", x, 1, 1, 1);
        WatchBeats y = pushedOnce(-9);
        y.set(1, 400);
        oddsDue("SPEED as it is doesn't count", y, 1, 1, 11);
        Check.due("SPEED is as it was", y.told(1), 400);
    }

    private static void asByHand() {
        Check.sentence("2", "were SPEED -20, -16, .. 20 now (eleven)");
        for (int n = 0; n <= 99; n += 3) {
            WatchBeats x = Watches.lively();
            x.push(3, 0, 50);
            int likely = 0;
            for (int tried = -20; tried <= 20; tried += 4) {
                x.set(1, tried);
                likely += x.beat(0) >= n ? 1 : 0;
            }
            boolean whole = likely % 11 == 0;
            oddsDue("lively", x, n, whole ? likely / 11 : likely, whole ? 1 : 11);
        }
    }

    private static void pushedLater() {
        Check.sentence("2", "an OFFSET, STIFF, SPEED that is tried is so from now on (PUSHES may change it later)");
        WatchBeats x = Watches.idle();
        x.set(0, 20);
        x.set(3, 9);
        x.set(5, 1);
        x.push(0, 0, -99);
        x.push(5, 0, -99);
        // It goes down in the first TICK, by 110 less SPEED at most, and the pull brings it up again.
        int likely = 0;
        for (int tried = -20; tried <= 20; tried += 4) {
            WatchBeats y = Watches.watch(20, tried, 1, 9, 0, 1);
            y.push(0, 0, -99);
            y.push(5, 0, -99);
            likely += y.beat(0) >= 1 ? 1 : 0;
        }
        boolean whole = likely % 11 == 0;
        oddsDue("two PUSHES", x, 1, whole ? likely / 11 : likely, whole ? 1 : 11);
    }

    private static void beatsRefused() {
        Check.sentence("Promise 20", "NO: n");
        for (int n : Values.outside(0, 99)) {
            Still.refused("odds(" + n + ", 0)", WatchBeats.NO, x -> x.odds(n, 0));
            Still.refused("odds(" + n + ", 1)", WatchBeats.NO, x -> x.odds(n, 1));
        }
    }

    private static void oddsPartRefused() {
        Check.sentence("Promise 20", "NO: n, part.");
        for (int part : Values.outside(0, 1)) {
            Still.refused("odds(0, " + part + ")", WatchBeats.NO, x -> x.odds(0, part));
            Still.refused("odds(99, " + part + ")", WatchBeats.NO, x -> x.odds(99, part));
        }
    }

    private static void meanDue(String when, WatchBeats x, long above, long below) {
        Check.due(when + ": mean(0)", x.mean(0), above);
        Check.due(when + ": mean(1)", x.mean(1), below);
    }

    private static void meanOfGaps() {
        Check.sentence("2", "MEAN of GAPS: a fraction in lowest terms");
        WatchBeats x = Watches.scripted();
        meanDue("8 by 4", x, 2, 1);
        x.go(1);
        meanDue("7 by 3", x, 7, 3);
        x.go(1);
        meanDue("6 by 2", x, 3, 1);
        x.go(1);
        meanDue("4 by 1", x, 4, 1);
        meanDue("393 by 131", Watches.quick(60, 99), 3, 1);
        meanDue("one GAP", Watches.quick(2, 1), 3, 1);
    }

    private static void noMean() {
        Check.sentence("2", "(NO: none)");
        meanDue("one BEAT", Watches.quick(1, 1), WatchBeats.NO, WatchBeats.NO);
        meanDue("no BEAT", Watches.idle(), WatchBeats.NO, WatchBeats.NO);
        WatchBeats x = Watches.scripted();
        x.go(5);
        meanDue("one BEAT is left", x, WatchBeats.NO, WatchBeats.NO);
        x.go(4);
        meanDue("none is left", x, WatchBeats.NO, WatchBeats.NO);
    }

    private static void meanPartRefused() {
        Check.sentence("Promise 21", "part likewise. NO.");
        for (int part : Values.outside(0, 1)) {
            Still.refused("mean(" + part + ")", WatchBeats.NO, x -> x.mean(part));
            Check.due("of five BEATS: mean(" + part + ")", Watches.scripted().mean(part), WatchBeats.NO);
        }
    }
}
