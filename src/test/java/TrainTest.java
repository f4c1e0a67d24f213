/** Promises 7 and 8: wheels and their turns. */
public final class TrainTest {
    public static void main(String[] args) {
        promise7();
        promise8();
        Check.end();
    }

    private static void promise7() {
        WatchBeats x = new WatchBeats();
        for (int teeth : new int[] {1, 0, -5, 100, Integer.MIN_VALUE, Integer.MAX_VALUE}) {
            Check.due("wheel refused", x.wheel(teeth), WatchBeats.BAD);
        }
        Check.due("no wheel came", x.told(12), 0);
        Check.due("the least teeth", x.wheel(2), 0);
        Check.due("the most teeth", x.wheel(99), 1);
        Check.due("a third", x.wheel(7), 2);
        Check.due("a fourth", x.wheel(7), 3);
        Check.due("a fifth", x.wheel(7), WatchBeats.FULL);
        Check.due("BAD goes ahead of FULL", x.wheel(1), WatchBeats.BAD);
        Check.due("four wheels", x.told(12), 4);
    }

    private static void turnsDue(WatchBeats x, int wheel, long above, long below) {
        Check.due("turns above", x.turns(wheel, 0), above);
        Check.due("turns below", x.turns(wheel, 1), below);
    }

    private static void promise8() {
        WatchBeats x = Watches.scripted();
        Check.due("no wheel", x.turns(0, 0), Watches.NO);
        x.wheel(2);
        x.wheel(3);
        turnsDue(x, 0, 0, 1);
        x.go(5);
        turnsDue(x, 0, 1, 1);
        turnsDue(x, 1, 1, 3);
        x.go(5);
        turnsDue(x, 0, 5, 4);
        turnsDue(x, 1, 5, 12);
        x.wheel(5);
        turnsDue(x, 2, 1, 12);
        Check.due("no fourth wheel", x.turns(3, 0), Watches.NO);
        x.wheel(99);
        turnsDue(x, 3, 1, 12 * 99);
        for (int no : new int[] {-1, 4, Integer.MIN_VALUE, Integer.MAX_VALUE}) {
            Check.due("no such wheel", x.turns(no, 0), Watches.NO);
            Check.due("no such part", x.turns(0, no), Watches.NO);
        }
        Check.due("no part 2", x.turns(0, 2), Watches.NO);
        WatchBeats y = Watches.scripted();
        for (int i = 0; i < 4; i++) {
            y.wheel(99);
        }
        y.go(1);
        turnsDue(y, 3, 1, 2L * 99 * 99 * 99 * 99);
    }
}
