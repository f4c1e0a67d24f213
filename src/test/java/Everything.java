import java.util.ArrayList;
import java.util.List;

/**
 * All that can be seen of a watch, line by line: what it tells now, its tapes, what its text does when it is read,
 * and what its image holds. The watch is used up by it.
 */
final class Everything {
    private final WatchBeats x;
    private final List<String> lines = new ArrayList<>();

    private Everything(WatchBeats x) {
        this.x = x;
    }

    static List<String> of(WatchBeats x) {
        Everything all = new Everything(x);
        all.tell("now");
        all.tellItems();
        all.line("read()", x.read());
        all.tell("behind read()");
        all.line("undo()", x.undo());
        all.tell("behind undo()");
        all.tellSorts();
        return all.lines;
    }

    private void line(String call, long answer) {
        lines.add(call + " = " + answer);
    }

    private void tell(String when) {
        for (int what = 0; what <= 12; what++) {
            line(when + " told(" + what + ")", x.told(what));
        }
        for (int what = 0; what <= 4; what++) {
            line(when + " energy(" + what + ")", x.energy(what));
        }
        for (int k = 0; k < x.told(11); k++) {
            for (int what = 0; what <= 2; what++) {
                line(when + " pushOf(" + k + ", " + what + ")", x.pushOf(k, what));
            }
        }
        for (int wheel = 0; wheel <= 3; wheel++) {
            line(when + " turns(" + wheel + ", 0)", x.turns(wheel, 0));
            line(when + " turns(" + wheel + ", 1)", x.turns(wheel, 1));
        }
        for (int what = 0; what <= 2; what++) {
            line(when + " count(" + what + ")", x.count(what));
        }
        line(when + " fits(0)", x.fits(0));
        line(when + " fits(1)", x.fits(1));
        line(when + " looked()", x.looked());
        line(when + " beat(0)", x.beat(0));
        line(when + " beat(4)", x.beat(4));
    }

    private void tellItems() {
        for (int tape = 0; tape <= 5; tape++) {
            for (int i = 0; x.peek(tape, i) != WatchBeats.NO; i++) {
                line("peek(" + tape + ", " + i + ")", x.peek(tape, i));
            }
        }
    }

    /** By what is left of such an item each sort is told from the others. */
    private void tellSorts() {
        for (int tape = 0; tape <= 5; tape++) {
            line("item(" + tape + ", 0, ..)", x.item(tape, 0, 1L << 40 | 1L << 31 | 1L << 15 | 1L << 7));
            line("behind it peek(" + tape + ", 0)", x.peek(tape, 0));
        }
    }
}
