/** An object is used for at most 512 calls: the last of them answers as the first would. */
public final class LastCallTest {
    private static final int CALLS = 512;

    public static void main(String[] args) {
        lastTick();
        lastOfAllThatIsDear();
        fullAndEmptyAgain();
        Check.end();
    }

    private static void lastTick() {
        Check.sentence("What it is", "An object is used for at most 512 calls after it has been made");
        WatchBeats x = new WatchBeats();
        for (int call = 1; call < CALLS; call++) {
            x.go(195);
        }
        Check.due("told(8), the 512th call", x.told(8), 511 * 195);
    }

    private static void lastOfAllThatIsDear() {
        Check.sentence("What it is", "at most 512 calls");
        WatchBeats x = Watches.quick(60, 99);
        int first = x.beat(3);
        for (int call = 6; call < CALLS; call++) {
            Check.due("beat(3), call " + call, x.beat(3), first);
        }
        Check.due("beat(4), the 512th call", x.beat(4), 397);
    }

    private static void fullAndEmptyAgain() {
        Check.sentence("What it is", "at most 512 calls");
        WatchBeats x = new WatchBeats();
        int calls = 0;
        while (calls + 104 < CALLS) {
            for (int i = 1; i <= 100; i++) {
                Check.due("feed", x.feed('a'), i);
            }
            Check.due("a sign more", x.feed('a'), WatchBeats.FULL);
            Check.due("read()", x.read(), -11);
            Check.due("image()", x.image(), 0);
            Check.due("undo()", x.undo(), 0);
            calls += 104;
        }
        Check.due("the last call", x.feed('a'), 1);
    }
}
