import java.util.List;
import java.util.function.Consumer;

/** Promises 25 and 26: the image is taken, and all is as it was. */
public final class ImageTest {
    public static void main(String[] args) {
        imageAnswersBeats();
        imageChangesNothing();
        laterImage();
        noImage();
        undoAnswersBeats();
        undoAgain();
        balance();
        pallets();
        pushes();
        clock();
        beatsAndBangs();
        account();
        train();
        seen();
        book();
        emptyAndFull();
        textStays();
        tapesStay();
        goesOnAlike();
        Check.end();
    }

    private static void imageAnswersBeats() {
        Check.sentence("Promise 25", "THE IMAGE is taken: BEATS.");
        WatchBeats x = Watches.scripted();
        Check.due("image() of no BEATS", x.image(), 0);
        x.go(3);
        Check.due("image() of three", x.image(), 3);
        x.go(400);
        Check.due("image() of five", x.image(), 5);
    }

    private static void imageChangesNothing() {
        Check.sentence("Promise 25", "THE IMAGE is taken");
        for (Start start : Start.values()) {
            WatchBeats x = start.watch();
            long[] before = Watches.allOf(x);
            x.image();
            Watches.sameDue(start + ": behind image()", Watches.allOf(x), before);
            x.image();
            Watches.sameDue(start + ": behind image() again", Watches.allOf(x), before);
        }
    }

    private static void laterImage() {
        Check.sentence("Promise 26", "All is as THE IMAGE");
        WatchBeats x = Watches.scripted();
        x.image();
        x.go(3);
        x.image();
        x.go(100);
        Check.due("undo() to the later one", x.undo(), 3);
        Check.due("CLOCK", x.told(8), 3);
    }

    private static void noImage() {
        Check.sentence("Promise 26", "STATE: there is none.");
        Still.refusedIn(Start.NEW, "undo()", WatchBeats.STATE, x -> x.undo());
        Still.refusedBy("undo() of a watch that went", ImageTest::gone, WatchBeats.STATE, x -> x.undo());
        WatchBeats x = new WatchBeats();
        Check.due("undo()", x.undo(), WatchBeats.STATE);
        Check.due("undo() again", x.undo(), WatchBeats.STATE);
        x.image();
        Check.due("there is one", x.undo(), 0);
    }

    private static WatchBeats gone() {
        WatchBeats x = Watches.lively();
        x.push(50, 0, 9);
        x.wheel(9);
        x.see(1, 1);
        x.book(1, 1);
        x.go(30);
        return x;
    }

    private static void undoAnswersBeats() {
        Check.sentence("Promise 26", "(THE TEXT and the TAPES stay as they are): BEATS.");
        WatchBeats x = Watches.scripted();
        x.go(2);
        x.image();
        Check.due("undo() of nothing", x.undo(), 2);
        x.go(100);
        Check.due("undo()", x.undo(), 2);
        Check.due("BEATS", x.told(9), 2);
    }

    /** THE IMAGE holds this part: all is as it was, however it was changed. */
    private static void undoDue(String words, Start start, Consumer<WatchBeats> change) {
        Check.sentence("2", words);
        WatchBeats untouched = start.watch();
        untouched.image();
        List<String> want = Everything.of(untouched);
        WatchBeats changed = start.watch();
        changed.image();
        change.accept(changed);
        Check.holds(start + ": it changed ahead of undo()", !Everything.of(changed).equals(want));
        WatchBeats undone = start.watch();
        undone.image();
        change.accept(undone);
        undone.undo();
        List<String> got = Everything.of(undone);
        for (int i = 0; i < want.size(); i++) {
            String found = got.get(i);
            Check.holds(start + ": " + want.get(i) + ", " + found + " behind undo()", found.equals(want.get(i)));
        }
    }

    private static void undoAgain() {
        Check.sentence("Promise 26", "All is as THE IMAGE");
        WatchBeats x = Start.BUSY.watch();
        int beats = x.image();
        long[] before = Watches.allOf(x);
        for (int round = 0; round < 3; round++) {
            x.set(0, 9 * round);
            x.push(90, 2, 7);
            x.go(200);
            x.see(-1, 0);
            x.book(-1, 0);
            Check.due("undo(), round " + round, x.undo(), beats);
            Watches.sameDue("round " + round, Watches.allOf(x), before);
        }
    }

    private static void balance() {
        int[] others = {-7, 17, 31, 9, -20, 60, 99};
        for (int what = 0; what < others.length; what++) {
            int of = what;
            undoDue("THE IMAGE: THE BALANCE and all told with it", Start.BUSY, x -> x.set(of, others[of]));
            undoDue("THE IMAGE: THE BALANCE and all told with it", Start.NEW, x -> x.set(of, others[of]));
        }
    }

    private static void pallets() {
        Check.sentence("2", "THE IMAGE: THE BALANCE");
        WatchBeats x = Watches.scripted();
        x.go(1);
        x.image();
        x.go(1);
        Check.due("PALLETS are UP", x.told(7), 0);
        x.undo();
        Check.due("they are DOWN again", x.told(7), 1);
        WatchBeats y = Watches.scripted();
        y.image();
        y.go(1);
        Check.due("PALLETS are DOWN", y.told(7), 1);
        y.undo();
        Check.due("they are UP again", y.told(7), 0);
    }

    private static void pushes() {
        undoDue("all told with it, PUSHES", Start.BUSY, x -> x.push(31, 3, 9));
        undoDue("all told with it, PUSHES", Start.NEW, x -> x.push(0, 0, 1));
        undoDue("all told with it, PUSHES", Start.FULL, x -> x.go(400));
        Check.sentence("2", "all told with it, PUSHES");
        WatchBeats x = Watches.idle();
        x.push(5, 3, 4);
        x.push(5, 2, 3);
        x.push(3, 0, 2);
        x.image();
        x.go(9);
        x.push(20, 0, 50);
        x.push(20, 1, 60);
        x.push(20, 2, 20);
        x.undo();
        int[][] due = {{3, 0, 2}, {5, 3, 4}, {5, 2, 3}};
        for (int k = 0; k < 3; k++) {
            for (int what = 0; what < 3; what++) {
                Check.due("pushOf(" + k + ", " + what + ")", x.pushOf(k, what), due[k][what]);
            }
        }
        Check.due("they wait again", x.told(11), 3);
        x.go(9);
        Check.due("they are done again", x.told(3), 4);
    }

    private static void clock() {
        undoDue("PUSHES, CLOCK", Start.BUSY, x -> x.go(1));
        Check.sentence("2", "PUSHES, CLOCK");
        WatchBeats x = Watches.atClock(99200);
        x.image();
        x.go(400);
        x.go(399);
        Check.due("no TICK more", x.go(1), WatchBeats.FULL);
        x.undo();
        Check.due("CLOCK", x.told(8), 99200);
        Check.due("they go by again", x.go(400), 0);
        Check.due("a PUSH ahead of CLOCK", x.push(99599, 0, 1), WatchBeats.BAD);
        x.undo();
        Check.due("at CLOCK or later", x.push(99200, 0, 1), 1);
    }

    private static void beatsAndBangs() {
        undoDue("CLOCK, BEATS, BANGS", Start.BUSY, x -> x.go(100));
        Check.sentence("2", "BEATS, BANGS");
        WatchBeats x = Watches.watch(0, 400, 4, 0, 0, 20);
        x.image();
        x.go(1);
        Check.due("a BEAT", x.told(9), 1);
        Check.due("a BANG", x.told(10), 1);
        x.undo();
        Check.due("no BEAT", x.told(9), 0);
        Check.due("no BANG", x.told(10), 0);
    }

    private static void account() {
        undoDue("BANGS, THE ACCOUNT", Start.FULL, x -> x.go(20));
        Check.sentence("1 THE BALANCE", "together they are ENERGY at any time");
        WatchBeats x = Start.BUSY.watch();
        x.image();
        x.set(1, 300);
        x.go(50);
        x.set(0, -299);
        x.undo();
        togetherDue("behind undo()", x);
        x.set(1, 77);
        togetherDue("behind undo() and set()", x);
        x.undo();
        x.go(50);
        togetherDue("behind undo() and go()", x);
    }

    private static void togetherDue(String when, WatchBeats x) {
        Check.due(when, x.energy(0) + x.energy(1) + x.energy(2) + x.energy(3), x.energy(4));
    }

    private static void train() {
        undoDue("THE ACCOUNT, TRAIN", Start.BUSY, x -> x.wheel(3));
        undoDue("THE ACCOUNT, TRAIN", Start.NEW, x -> x.wheel(3));
        Check.sentence("2", "THE ACCOUNT, TRAIN");
        WatchBeats x = Watches.scripted();
        x.go(1);
        x.wheel(5);
        x.image();
        x.wheel(7);
        x.wheel(7);
        x.wheel(7);
        Check.due("a fifth", x.wheel(7), WatchBeats.FULL);
        x.undo();
        Check.due("WHEELS", x.told(12), 1);
        Check.due("another comes", x.wheel(11), 1);
        Check.due("its TEETH count", x.turns(1, 1), 2 * 5 * 11);
    }

    private static void seen() {
        undoDue("TRAIN, SEEN", Start.BUSY, x -> x.see(6, 7));
        undoDue("TRAIN, SEEN", Start.FULL, x -> x.see(-1, 0));
        undoDue("TRAIN, SEEN", Start.NEW, x -> x.see(6, 7));
        Check.sentence("2", "TRAIN, SEEN");
        WatchBeats x = Watches.idle();
        x.see(0, 0);
        x.image();
        x.see(-1, 0);
        x.see(0, 1);
        Check.due("fits(0)", x.fits(0), 0);
        x.undo();
        Check.due("fits(0) behind undo()", x.fits(0), 32);
        x.see(-1, 0);
        x.see(0, 1);
        x.undo();
        Check.due("fits(0) behind undo() again", x.fits(0), 32);
    }

    private static void book() {
        undoDue("SEEN, the BOOK.", Start.BUSY, x -> x.book(3, 400));
        undoDue("SEEN, the BOOK.", Start.FULL, x -> x.book(-1, 0));
        undoDue("SEEN, the BOOK.", Start.NEW, x -> x.book(3, 400));
        Check.sentence("2", "SEEN, the BOOK.");
        WatchBeats x = Watches.scripted();
        x.book(4, 8);
        x.image();
        for (int round = 0; round < 2; round++) {
            x.book(-1, 0);
            x.book(3, 9);
            Check.due("looked()", x.looked(), 0);
            x.undo();
            Check.due("looked() behind undo()", x.looked(), -5);
        }
    }

    private static void emptyAndFull() {
        Check.sentence("Promise 26", "All is as THE IMAGE");
        WatchBeats x = new WatchBeats();
        x.image();
        for (int i = 0; i < 8; i++) {
            x.push(9, 0, 1);
            x.book(i, 1);
            x.wheel(9);
            x.see(1, 1);
        }
        x.undo();
        Check.due("PUSHES", x.told(11), 0);
        Check.due("WHEELS", x.told(12), 0);
        Check.due("SEEN", x.count(0), 0);
        Check.due("of the BOOK", x.count(1), 0);
        WatchBeats y = Start.FULL.watch();
        y.image();
        y.go(400);
        y.see(-1, 0);
        y.book(-1, 0);
        y.undo();
        Check.due("a ninth PUSH", y.push(99, 0, 1), WatchBeats.FULL);
        Check.due("a fifth WHEEL", y.wheel(9), WatchBeats.FULL);
        Check.due("a sixth SEEN", y.see(1, 1), WatchBeats.FULL);
        Check.due("a ninth of the BOOK", y.book(1, 1), WatchBeats.FULL);
    }

    private static void textStays() {
        Check.sentence("Promise 26", "(THE TEXT and the TAPES stay as they are)");
        WatchBeats x = new WatchBeats();
        Watches.feed(x, "a5");
        x.image();
        Watches.feed(x, ";v");
        x.undo();
        Check.due("bytes of THE TEXT", x.count(2), 4);
        x.feed('6');
        Check.due("read()", x.read(), 2);
        Watches.toldDue("read()", x, 5, 6);
        x.undo();
        Check.due("it was read, it stays empty", x.count(2), 0);
        Check.due("ANGLE", x.told(0), 0);
    }

    private static void tapesStay() {
        Check.sentence("Promise 26", "the TAPES stay as they are");
        WatchBeats x = new WatchBeats();
        x.tape(0, 2, 3);
        x.tape(2, 3, 2);
        x.image();
        x.item(0, 1, 44);
        x.tape(1, 0, 1);
        x.tape(2, -1, 0);
        x.undo();
        Check.due("an item", x.peek(0, 1), 44);
        Check.due("a row that came", x.peek(1, 0), 0);
        Check.due("a row that went", x.peek(2, 0), WatchBeats.NO);
    }

    private static void goesOnAlike() {
        Check.sentence("Promise 26", "All is as THE IMAGE");
        for (Start start : new Start[] {Start.NEW, Start.BUSY, Start.FULL}) {
            WatchBeats x = start.watch();
            x.image();
            x.go(100);
            long[] first = Watches.allOf(x);
            x.set(0, 300);
            x.undo();
            x.go(100);
            Watches.sameDue(start + ": the same 100 TICKS", Watches.allOf(x), first);
        }
    }
}
