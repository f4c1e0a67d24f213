/** Promises 7 and 8: wheels and their turns. */
public final class TrainTest {
    public static void main(String[] args) {
        teethTaken();
        teethRefused();
        fourWheels();
        badAheadOfFull();
        turnsOfNoBeats();
        lowestTerms();
        greatestTrain();
        wheelRefused();
        partRefused();
        Check.end();
    }

    private static void teethTaken() {
        Check.sentence("TRAIN", "WHEELS 0 .. 3, as they come, each with TEETH (2 .. 99)");
        WatchBeats x = Watches.scripted();
        x.go(1);
        long below = 2;
        int[] teeth = Values.atBounds(2, 99);
        for (int wheel = 0; wheel < teeth.length; wheel++) {
            Check.due("wheel(" + teeth[wheel] + ")", x.wheel(teeth[wheel]), wheel);
            below *= teeth[wheel];
            Check.due("its TEETH count", x.turns(wheel, 1), below);
            Check.due("WHEELS", x.told(12), wheel + 1);
        }
    }

    private static void teethRefused() {
        Check.sentence("Promise 7", "BAD: teeth");
        for (int teeth : Values.outside(2, 99)) {
            Still.refused("wheel(" + teeth + ")", WatchBeats.BAD, x -> x.wheel(teeth));
        }
    }

    private static void fourWheels() {
        Check.sentence("Promise 7", "FULL: 4.");
        WatchBeats x = new WatchBeats();
        for (int wheel = 0; wheel < 4; wheel++) {
            Check.due("wheel " + wheel, x.wheel(7), wheel);
        }
        Check.due("a fifth", x.wheel(7), WatchBeats.FULL);
        for (int teeth : Values.atBounds(2, 99)) {
            Still.refusedIn(Start.FULL, "wheel(" + teeth + ")", WatchBeats.FULL, y -> y.wheel(teeth));
        }
    }

    private static void badAheadOfFull() {
        Check.sentence("Promise 7", "BAD: teeth; FULL: 4.");
        for (int teeth : Values.outside(2, 99)) {
            Still.refusedIn(Start.FULL, "wheel(" + teeth + ")", WatchBeats.BAD, x -> x.wheel(teeth));
        }
    }

    private static void turnsDue(WatchBeats x, int wheel, long above, long below) {
        Check.due("turns(" + wheel + ", 0)", x.turns(wheel, 0), above);
        Check.due("turns(" + wheel + ", 1)", x.turns(wheel, 1), below);
    }

    private static void turnsOfNoBeats() {
        Check.sentence("TRAIN",
            "TURNS of WHEEL k: BEATS by (2 times TEETH of WHEEL 0 times .. times TEETH of WHEEL k)");
        WatchBeats x = new WatchBeats();
        for (int wheel = 0; wheel < 4; wheel++) {
            x.wheel(99 - wheel);
            turnsDue(x, wheel, 0, 1);
        }
    }

    private static void lowestTerms() {
        Check.sentence("TRAIN", "a fraction in lowest terms");
        WatchBeats x = Watches.scripted();
        x.wheel(2);
        x.wheel(3);
        x.go(1);
        turnsDue(x, 0, 1, 4);
        turnsDue(x, 1, 1, 12);
        x.go(1);
        turnsDue(x, 0, 1, 2);
        turnsDue(x, 1, 1, 6);
        x.go(1);
        turnsDue(x, 0, 3, 4);
        turnsDue(x, 1, 1, 4);
        x.go(2);
        turnsDue(x, 0, 1, 1);
        turnsDue(x, 1, 1, 3);
        x.go(5);
        turnsDue(x, 0, 5, 4);
        turnsDue(x, 1, 5, 12);
        x.wheel(5);
        turnsDue(x, 2, 1, 12);
        x.wheel(98);
        turnsDue(x, 3, 1, 12 * 98);
    }

    private static void greatestTrain() {
        Check.sentence("Promise 8", "part 0 above, 1 below the line");
        WatchBeats x = Watches.scripted();
        for (int i = 0; i < 4; i++) {
            x.wheel(99);
        }
        x.go(1);
        turnsDue(x, 3, 1, 2L * 99 * 99 * 99 * 99);
        x.go(1);
        turnsDue(x, 3, 1, 99L * 99 * 99 * 99);
        x.go(1);
        turnsDue(x, 3, 1, 2L * 33 * 99 * 99 * 99);
    }

    private static void wheelRefused() {
        Check.sentence("Promise 8", "NO: wheel");
        for (Start start : Start.values()) {
            int wheels = start.watch().told(12);
            for (int wheel : Values.outside(0, wheels - 1)) {
                Still.refusedIn(start, "turns(" + wheel + ", 0)", WatchBeats.NO, x -> x.turns(wheel, 0));
                Still.refusedIn(start, "turns(" + wheel + ", 1)", WatchBeats.NO, x -> x.turns(wheel, 1));
            }
        }
    }

    private static void partRefused() {
        Check.sentence("Promise 8", "NO: wheel, part.");
        for (int part : Values.outside(0, 1)) {
            Still.refused("turns(0, " + part + ")", WatchBeats.NO, x -> x.turns(0, part));
            Still.refusedIn(Start.FULL, "turns(3, " + part + ")", WatchBeats.NO, x -> x.turns(3, part));
        }
    }
}
