import java.util.List;
import java.util.function.Supplier;
import java.util.function.ToLongFunction;

/** Looks whether calls that are refused, and calls that only ask, leave all as it was. */
final class Still {
    private Still() {
    }

    /** The call is refused so in each of the starts, and nothing changes by it. */
    static void refused(String call, long want, ToLongFunction<WatchBeats> made) {
        for (Start start : Start.values()) {
            refusedIn(start, call, want, made);
        }
    }

    static void refusedIn(Start start, String call, long want, ToLongFunction<WatchBeats> made) {
        refusedBy(start + ": " + call, start::watch, want, made);
    }

    static void refusedBy(String call, Supplier<WatchBeats> watch, long want, ToLongFunction<WatchBeats> made) {
        WatchBeats x = watch.get();
        Check.due(call, made.applyAsLong(x), want);
        sameDue(call, Everything.of(x), Everything.of(watch.get()));
    }

    /** The call answers alike when it is asked again, in each of the starts, and nothing changes by it. */
    static void asked(String call, ToLongFunction<WatchBeats> made) {
        for (Start start : Start.values()) {
            WatchBeats x = start.watch();
            long first = made.applyAsLong(x);
            Check.due(start + ": " + call + ", asked again,", made.applyAsLong(x), first);
            sameDue(start + ": " + call, Everything.of(x), Everything.of(start.watch()));
        }
    }

    private static void sameDue(String call, List<String> got, List<String> want) {
        for (int i = 0; i < Math.min(got.size(), want.size()); i++) {
            if (!got.get(i).equals(want.get(i))) {
                Check.holds("behind " + call + " it was " + got.get(i) + ", not " + want.get(i) + ": unchanged", false);
                return;
            }
        }
        Check.due("behind " + call + ": how many numbers there are", got.size(), want.size());
    }
}
