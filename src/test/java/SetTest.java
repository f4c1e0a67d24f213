import java.util.Arrays;

/** Promises 1 to 3: a new watch, and its numbers as they are set and told. */
public final class SetTest {
    private static final int[] OTHERS = {0, 1, 2, 3, 4, 5, 6, 7, 8, 9, 10, 11, 12};

    public static void main(String[] args) {
        allAsAtFirst();
        nothingTapedAtFirst();
        noImageAtFirst();
        objectsApart();
        numberDue("ANGLE (-300 .. 300; 0 at first)", 0, -300, 300, 0);
        numberDue("SPEED (-400 .. 400; 0 at first)", 1, -400, 400, 0);
        numberDue("STIFF (1 .. 32; 4 at first)", 2, 1, 32, 4);
        numberDue("DRAG (0 .. 9; 0 at first)", 3, 0, 9, 0);
        numberDue("OFFSET (-20 .. 20; 0 at first)", 4, -20, 20, 0);
        numberDue("FORCE (0 .. 60; 20 at first)", 5, 0, 60, 20);
        numberDue("LIFE (1 .. 99; 10 at first)", 6, 1, 99, 10);
        valueRefused(0, -300, 300);
        valueRefused(1, -400, 400);
        valueRefused(2, 1, 32);
        valueRefused(3, 0, 9);
        valueRefused(4, -20, 20);
        valueRefused(5, 0, 60);
        valueRefused(6, 1, 99);
        whatRefused();
        whatAheadOfValue();
        whatItWas();
        toldLikewise();
        toldRefused();
        Check.end();
    }

    private static void allAsAtFirst() {
        Check.sentence("Promise 1", "All as at first.");
        newDue(new WatchBeats());
    }

    private static void newDue(WatchBeats x) {
        Watches.toldDue("new", x, 0, 0, 4, 0, 0, 20, 10, 0, 0, 0, 0, 0, 0);
        Watches.energiesDue("new", x, 0, 0, 0, 0, 0);
        for (int what = 0; what < 3; what++) {
            Check.due("new: count(" + what + ")", x.count(what), 0);
        }
        Check.due("new: pushOf(0, 0)", x.pushOf(0, 0), -1000);
        Check.due("new: turns(0, 0)", x.turns(0, 0), WatchBeats.NO);
        Check.due("new: fits(0)", x.fits(0), 32);
        Check.due("new: looked()", x.looked(), -5);
        Check.due("new: peek(0, 0)", x.peek(0, 0), WatchBeats.NO);
        Check.due("new: undo()", x.undo(), WatchBeats.STATE);
        Check.due("new: read()", x.read(), -10);
    }

    private static void nothingTapedAtFirst() {
        Check.sentence("3", "TAPES 0 .. 5 hold nothing (at first)");
        WatchBeats x = new WatchBeats();
        for (int tape = 0; tape < 6; tape++) {
            Check.due("new: peek(" + tape + ", 0)", x.peek(tape, 0), WatchBeats.NO);
            Check.due("new: item(" + tape + ", 0, 1)", x.item(tape, 0, 1), -11);
        }
    }

    private static void noImageAtFirst() {
        Check.sentence("Promise 26", "STATE: there is none.");
        Check.due("new: undo()", new WatchBeats().undo(), WatchBeats.STATE);
    }

    private static void objectsApart() {
        Check.sentence("Promise 1", "A new object");
        WatchBeats early = new WatchBeats();
        WatchBeats full = Start.FULL.watch();
        Everything.of(Start.FULL.watch());
        newDue(early);
        newDue(new WatchBeats());
        Check.holds("nor does a new one take from it", Everything.of(full).equals(Everything.of(Start.FULL.watch())));
    }

    private static void numberDue(String words, int what, int least, int most, int first) {
        Check.sentence("1 THE BALANCE", words);
        WatchBeats x = new WatchBeats();
        Check.due("told(" + what + ") at first", x.told(what), first);
        int was = first;
        for (int v : Values.atBounds(least, most)) {
            int[] before = toldOf(x);
            before[what] = v;
            Check.due("set(" + what + ", " + v + ")", x.set(what, v), was);
            Check.holds("it alone becomes " + v, Arrays.equals(toldOf(x), before));
            was = v;
        }
    }

    private static int[] toldOf(WatchBeats x) {
        return Arrays.stream(OTHERS).map(x::told).toArray();
    }

    private static void valueRefused(int what, int least, int most) {
        Check.sentence("Promise 2", "-1001: v.");
        for (int v : Values.outside(least, most)) {
            Still.refused("set(" + what + ", " + v + ")", -1001, x -> x.set(what, v));
        }
    }

    private static void whatRefused() {
        Check.sentence("Promise 2", "-1000: what");
        for (int what : Values.outside(0, 6)) {
            Still.refused("set(" + what + ", 1)", -1000, x -> x.set(what, 1));
        }
    }

    private static void whatAheadOfValue() {
        Check.sentence("Answers", "the first that a call's words name");
        for (int what : Values.outside(0, 6)) {
            Check.due("set(" + what + ", 1000)", new WatchBeats().set(what, 1000), -1000);
            Check.due("set(" + what + ", min)", new WatchBeats().set(what, Integer.MIN_VALUE), -1000);
        }
    }

    private static void whatItWas() {
        Check.sentence("Promise 2", "becomes v: what it was.");
        WatchBeats x = Watches.watch(-300, 400, 1, 0, 0, 0);
        x.push(0, 0, 99);
        x.go(1);
        Check.due("set tells a SPEED beyond what it would take", x.set(1, 400), 508);
        Check.due("as it was set", x.set(1, 400), 400);
        Check.due("ANGLE as it went", x.set(0, 0), 208);
    }

    private static void toldLikewise() {
        Check.sentence("Promise 3",
            "What 0 .. 6 likewise, 7 PALLETS, 8 CLOCK, 9 BEATS, 10 BANGS, 11 how many PUSHES wait, 12 WHEELS.");
        WatchBeats x = Watches.scripted();
        x.wheel(5);
        x.go(3);
        Watches.toldDue("three ticks of the script", x, 1, 3, 1, 0, 0, 1, 99, 1, 3, 3, 0, 3, 1);
        WatchBeats y = Watches.watch(-299, -2, 1, 7, -3, 5);
        y.go(1);
        Watches.toldDue("pulled and dragged", y, -299, 0, 1, 7, -3, 5, 10, 0, 1, 0, 0, 0, 0);
    }

    private static void toldRefused() {
        Check.sentence("Promise 3", "-1000.");
        for (int what : Values.outside(0, 12)) {
            Still.refused("told(" + what + ")", -1000, x -> x.told(what));
        }
    }
}
