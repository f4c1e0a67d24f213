/** Promises 25 and 26: the image is taken, and all is as it was. */
public final class ImageTest {
    public static void main(String[] args) {
        promise25();
        promise26();
        promise26SeenAndBook();
        promise26TextAndTapes();
        Check.end();
    }

    private static void promise25() {
        WatchBeats x = Watches.scripted();
        Check.due("image of no beats", x.image(), 0);
        x.go(3);
        long[] before = Watches.allOf(x);
        Check.due("image of three beats", x.image(), 3);
        Watches.sameDue("image", Watches.allOf(x), before);
        x.go(100);
        Check.due("undo to the later image", x.undo(), 3);
    }

    private static void promise26() {
        WatchBeats x = Watches.lively();
        long[] first = Watches.allOf(x);
        Check.due("no image", x.undo(), WatchBeats.STATE);
        Watches.sameDue("no image", Watches.allOf(x), first);
        x.wheel(15);
        x.go(30);
        x.push(33, 0, -25);
        x.push(40, 3, 9);
        x.see(3, 4);
        x.book(5, 6);
        long[] before = Watches.allOf(x);
        int beats = x.image();
        for (int round = 0; round < 2; round++) {
            changeAll(x);
            Check.due("undo answers the beats of the image", x.undo(), beats);
            Watches.sameDue("undo", Watches.allOf(x), before);
            Check.due("the wheel's turns", x.turns(0, 1), 30 / common(beats, 30));
        }
        long together = x.energy(0) + x.energy(1) + x.energy(2) + x.energy(3);
        Check.due("the account is the energy behind undo", together, x.energy(4));
        x.go(50);
        together = x.energy(0) + x.energy(1) + x.energy(2) + x.energy(3);
        Check.due("the account is the energy behind that", together, x.energy(4));
    }

    private static int common(int a, int b) {
        return b == 0 ? a : common(b, a % b);
    }

    private static void changeAll(WatchBeats x) {
        for (int what = 0; what < 7; what++) {
            x.set(what, 9);
        }
        x.push(90, 2, 7);
        x.wheel(3);
        x.go(200);
        x.see(-1, 0);
        x.see(9, 9);
        x.see(9, 9);
        x.book(-1, 0);
    }

    private static void promise26SeenAndBook() {
        WatchBeats x = Watches.scripted();
        x.see(0, 0);
        x.book(4, 8);
        x.image();
        x.see(-1, 0);
        x.see(8, 1);
        x.book(-1, 0);
        x.book(3, 9);
        Check.holds("another is seen", x.fits(0) < 32);
        Check.due("another stands in the book", x.looked(), 0);
        x.undo();
        x.go(1);
        Check.due("what was seen is so no more", x.fits(0), 0);
        x.undo();
        Check.due("what was seen", x.fits(0), 32);
        Check.due("what stood in the book", x.looked(), -5);
        Check.due("what was heard", x.heard(4), 8);
    }

    private static void promise26TextAndTapes() {
        WatchBeats x = new WatchBeats();
        Watches.feed(x, "a5");
        x.tape(0, 2, 3);
        x.image();
        x.feed(';');
        x.feed('v');
        x.item(0, 1, 44);
        x.tape(1, 0, 1);
        x.undo();
        Check.due("THE TEXT stays", x.count(2), 4);
        x.feed('6');
        Check.due("read of it", x.read(), 2);
        Check.due("its ANGLE", x.told(0), 5);
        Check.due("the TAPES stay", x.peek(0, 1), 44);
        Check.due("the TAPES stay", x.peek(1, 0), 0);
    }
}
