/** Watches that several tests begin with, and what is asked of them in several tests. */
final class Watches {
    static final int TOLD = 13;

    private Watches() {
    }

    /**
     * BEATS at 0, 1, 2, 4, 8 and none behind, each brought about by hand: within 31 of 0 a STIFF of 1 doesn't pull,
     * and a FORCE of 1 kicks by 1.
     */
    static WatchBeats scripted() {
        WatchBeats x = new WatchBeats();
        x.set(1, 1);
        x.set(2, 1);
        x.set(5, 1);
        x.set(6, 99);
        x.push(1, 0, -4);
        x.push(2, 0, 5);
        x.push(4, 0, -10);
        x.push(5, 0, 9);
        x.push(9, 0, -2);
        return x;
    }

    static final int[] SCRIPTED_BEATS = {0, 1, 2, 4, 8};

    /** A watch without force on a spring that doesn't pull near 0: it moves as it is pushed alone. */
    static WatchBeats idle() {
        WatchBeats x = new WatchBeats();
        x.set(2, 1);
        x.set(5, 0);
        return x;
    }

    /** A watch that goes long and unevenly. */
    static WatchBeats lively() {
        WatchBeats x = new WatchBeats();
        x.set(0, 120);
        x.set(2, 7);
        x.set(3, 1);
        x.set(4, 6);
        x.set(5, 33);
        x.set(6, 4);
        return x;
    }

    /**
     * By STIFF 32 it swings from 1 over 0 to -1 and back in 6 TICKS, more widely by each kick: a BEAT at 4, 7, 10 and
     * so on, until so many took the last FORCE away.
     */
    static WatchBeats quick(int force, int life) {
        WatchBeats x = new WatchBeats();
        x.set(0, 1);
        x.set(2, 32);
        x.set(5, force);
        x.set(6, life);
        return x;
    }

    static WatchBeats watch(int angle, int speed, int stiff, int drag, int offset, int force) {
        WatchBeats x = new WatchBeats();
        x.set(0, angle);
        x.set(1, speed);
        x.set(2, stiff);
        x.set(3, drag);
        x.set(4, offset);
        x.set(5, force);
        return x;
    }

    /** A watch at rest whose CLOCK is there. */
    static WatchBeats atClock(int clock) {
        WatchBeats x = idle();
        for (int i = 0; i < clock / 400; i++) {
            x.go(400);
        }
        if (clock % 400 != 0) {
            x.go(clock % 400);
        }
        return x;
    }

    static WatchBeats atLastClock() {
        return atClock(99999);
    }

    /** All that told(), energy(), pushOf() and count() tell. */
    static long[] allOf(WatchBeats x) {
        long[] all = new long[TOLD + 5 + 24 + 3];
        int at = 0;
        for (int what = 0; what < TOLD; what++) {
            all[at++] = x.told(what);
        }
        for (int what = 0; what < 5; what++) {
            all[at++] = x.energy(what);
        }
        for (int k = 0; k < 8; k++) {
            for (int what = 0; what < 3; what++) {
                all[at++] = x.pushOf(k, what);
            }
        }
        for (int what = 0; what < 3; what++) {
            all[at++] = x.count(what);
        }
        return all;
    }

    static void sameDue(String when, long[] got, long[] want) {
        for (int i = 0; i < want.length; i++) {
            Check.due(when + ": number " + i + " of all", got[i], want[i]);
        }
    }

    static void toldDue(String when, WatchBeats x, int... want) {
        for (int what = 0; what < want.length; what++) {
            Check.due(when + ": told(" + what + ")", x.told(what), want[what]);
        }
    }

    static void energiesDue(String when, WatchBeats x, long... want) {
        for (int what = 0; what < want.length; what++) {
            Check.due(when + ": energy(" + what + ")", x.energy(what), want[what]);
        }
    }

    static void feed(WatchBeats x, String text) {
        for (int i = 0; i < text.length(); i++) {
            x.feed(text.charAt(i));
        }
    }

    static int read(WatchBeats x, String text) {
        feed(x, text);
        return x.read();
    }
}
