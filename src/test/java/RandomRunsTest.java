import java.util.Random;

/**
 * Runs of calls drawn by chance, the same ones each time, answered by WatchBeats and by PlainWatch: all promises
 * together, each in states that the other calls have brought about.
 */
public final class RandomRunsTest {
    private static final int RUNS = 400;
    /** Of an object's 512 calls those at the end look at all, and what is drawn last may be several calls. */
    private static final int DRAWN_CALLS = 440;
    private static final int[] EDGES = {Integer.MIN_VALUE, -1001, -401, -301, -21, -2, -1, 0, 1, 2, 10, 21, 33, 61, 99,
        100, 101, 128, 301, 401, 99999, 100000, Integer.MAX_VALUE};
    private static final String SIGNS = "avsgoflwt;;;;--0123456789";

    private final Random random;
    private final WatchBeats x = new WatchBeats();
    private final PlainWatch y = new PlainWatch();
    private final String run;
    private final int edgeOfSo;
    private int calls;

    private RandomRunsTest(int seed) {
        random = new Random(seed);
        edgeOfSo = seed % 4 == 3 ? 2 : 12;
        run = "run " + seed + ", ";
    }

    public static void main(String[] args) {
        for (int seed = 0; seed < RUNS; seed++) {
            RandomRunsTest run = new RandomRunsTest(seed);
            run.begin(seed);
            while (run.calls < DRAWN_CALLS) {
                run.call();
            }
            run.lookAtAll();
            Check.holds("run " + seed + " has 512 calls at most", run.calls <= 512);
        }
        Check.end();
    }

    private void due(String call, long got, long want) {
        calls++;
        Check.due(run + call, got, want);
    }

    /** Mostly a number in its bounds, at times one of the edges; in every fourth run these are half of all. */
    private int near(int least, int most) {
        return random.nextInt(edgeOfSo) == 0 ? EDGES[random.nextInt(EDGES.length)] : inBounds(least, most);
    }

    private int inBounds(int least, int most) {
        return least + random.nextInt(most - least + 1);
    }

    /** Every third run begins some ticks ahead of the end of the clock. */
    private void begin(int seed) {
        if (seed % 3 == 0) {
            set(5, 0);
            for (int i = 0; i < 249; i++) {
                due("go(400)", x.go(400), y.go(400));
            }
            set(5, inBounds(1, 60));
        }
        set(1, inBounds(-200, 200));
    }

    private void set(int what, int v) {
        due("set(" + what + ", " + v + ")", x.set(what, v), y.set(what, v));
    }

    private void feedAndRead(String signs) {
        for (int i = 0; i < signs.length(); i++) {
            feed(signs.charAt(i));
        }
        due("read() of " + signs, x.read(), y.read());
    }

    private void feed(int sign) {
        due("feed(" + sign + ")", x.feed(sign), y.feed(sign));
    }

    private String setUp() {
        StringBuilder signs = new StringBuilder();
        for (int clauses = inBounds(1, 4); clauses > 0; clauses--) {
            int number = random.nextInt(3) == 0 ? inBounds(-400, 400) : inBounds(-20, 60);
            signs.append("avsgoflwt".charAt(random.nextInt(9))).append(number).append(clauses > 1 ? ";" : "");
        }
        if (random.nextInt(5) == 0) {
            signs.setCharAt(random.nextInt(signs.length()), SIGNS.charAt(random.nextInt(SIGNS.length())));
        }
        return signs.toString();
    }

    private void call() {
        int which = random.nextInt(31);
        if (which < 10) {
            callBalance(which);
        } else if (which < 20) {
            callAhead(which);
        } else {
            callTapes(which);
        }
    }

    private void callBalance(int which) {
        int what = near(0, which == 1 ? 12 : 6);
        int k = near(0, 3);
        switch (which) {
            case 0: set(what, near(-20, 60)); break;
            case 1: due("told(" + what + ")", x.told(what), y.told(what)); break;
            case 2: push(); break;
            case 3: due("pushOf(" + k + ", " + what + ")", x.pushOf(k, what), y.pushOf(k, what)); break;
            case 4:
                int n = random.nextInt(3) == 0 ? near(1, 400) : near(1, 12);
                due("go(" + n + ")", x.go(n), y.go(n));
                break;
            case 5: due("wheel", x.wheel(k * 9 + 2), y.wheel(k * 9 + 2)); break;
            case 6: due("turns(" + k + ", " + what + ")", x.turns(k, what % 3), y.turns(k, what % 3)); break;
            case 7: due("energy(" + what + ")", x.energy(what), y.energy(what)); break;
            case 8: feed(random.nextBoolean() ? near(0, 127) : SIGNS.charAt(random.nextInt(SIGNS.length()))); break;
            default: feedAndRead(setUp()); break;
        }
    }

    private void push() {
        int time = random.nextInt(12) == 0 ? near(0, 99999) : y.told(8) + inBounds(-1, 30);
        int what = near(0, 3);
        int n = near(what == 3 ? 0 : -20, what == 3 ? 9 : what == 2 ? 20 : 60);
        due("push(" + time + ", " + what + ", " + n + ")", x.push(time, what, n), y.push(time, what, n));
    }

    private void callAhead(int which) {
        int n = random.nextBoolean() ? near(0, 400) : near(0, 20);
        int k = random.nextInt(3) == 0 ? near(0, 99) : near(0, 9);
        int what = near(0, 5);
        int part = near(0, 1);
        switch (which) {
            case 10: due("ahead(" + n + ", " + what + ")", x.ahead(n, what), y.ahead(n, what)); break;
            case 11: due("energyAt(" + n + ")", x.energyAt(n), y.energyAt(n)); break;
            case 12: due("heard(" + k + ")", x.heard(k), y.heard(k)); break;
            case 13: due("beat(" + what + ")", x.beat(what), y.beat(what)); break;
            case 14: due("gap(" + k + ")", x.gap(k), y.gap(k)); break;
            case 15: due("longest(" + k + ", " + part + ")", x.longest(k, part), y.longest(k, part)); break;
            case 16: see(n); break;
            case 17: due("fits(" + part + ")", x.fits(part), y.fits(part)); break;
            case 18: due("odds(" + k + ", " + part + ")", x.odds(k, part), y.odds(k, part)); break;
            default: due("mean(" + part + ")", x.mean(part), y.mean(part)); break;
        }
    }

    private void see(int n) {
        int shown = random.nextInt(8) == 0 ? -1 : n;
        int angle = random.nextInt(4) == 0 ? near(-300, 300) : y.ahead(shown, 0);
        due("see(" + shown + ", " + angle + ")", x.see(shown, angle), y.see(shown, angle));
    }

    private void callTapes(int which) {
        int tape = near(0, 3);
        int other = near(0, 3);
        int i = near(0, 8);
        int j = near(0, 8);
        int n = near(0, 5);
        switch (which) {
            case 20: book(); break;
            case 21: due("looked()", x.looked(), y.looked()); break;
            case 22: due("judge(" + tape + ", " + i + ")", x.judge(tape, i), y.judge(tape, i)); break;
            case 23: image(); break;
            case 24: due("undo()", x.undo(), y.undo()); break;
            case 25: due("count(" + n + ")", x.count(n), y.count(n)); break;
            case 26: tape(tape, n % 3 == 0 ? 1 : n - 1, near(0, 12)); break;
            case 27: hear(tape, i); break;
            case 28: item(tape, i, random.nextBoolean() ? random.nextLong() : random.nextInt(70000)); break;
            case 29: due("peek(" + tape + ", " + i + ")", x.peek(tape, i), y.peek(tape, i)); break;
            default:
                String call = "shift(" + tape + ", " + i + ", " + other + ", " + j + ", " + n + ")";
                due(call, x.shift(tape, i, other, j, n), y.shift(tape, i, other, j, n));
                break;
        }
    }

    private void book() {
        int k = random.nextInt(8) == 0 ? -1 : near(0, 9);
        int n = random.nextInt(4) == 0 ? near(0, 400) : y.heard(k);
        due("book(" + k + ", " + n + ")", x.book(k, n), y.book(k, n));
    }

    private void image() {
        if (random.nextInt(3) == 0) {
            due("image()", x.image(), y.image());
        }
    }

    private void tape(int tape, int sort, int n) {
        due("tape(" + tape + ", " + sort + ", " + n + ")", x.tape(tape, sort, n), y.tape(tape, sort, n));
    }

    private void item(int tape, int i, long v) {
        due("item(" + tape + ", " + i + ", " + v + ")", x.item(tape, i, v), y.item(tape, i, v));
    }

    /** A row that tells what is heard, mostly, up to where it ends. */
    private void hear(int tape, int from) {
        if (from < 0 || from > 60) {
            return;
        }
        for (int k = 0; k < 4; k++) {
            int told = random.nextInt(20) == 0 ? 3 : y.heard(k);
            item(tape, from + k, told);
        }
        due("judge(" + tape + ", " + from + ")", x.judge(tape, from), y.judge(tape, from));
    }

    private void lookAtAll() {
        for (int what = 0; what < 13; what++) {
            due("told(" + what + ") at the end", x.told(what), y.told(what));
        }
        for (int what = 0; what < 5; what++) {
            due("energy(" + what + ") at the end", x.energy(what), y.energy(what));
        }
        for (int k = 0; k < 8; k++) {
            for (int what = 0; what < 3; what++) {
                due("pushOf at the end", x.pushOf(k, what), y.pushOf(k, what));
            }
        }
    }
}
