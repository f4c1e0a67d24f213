/** A watch in ticks. The document tells what each call answers; README.md tells how to use it. */
public final class WatchBeats {
    public static final int NONE = -1, BAD = -2, STATE = -3, FULL = -4;
    public static final long NO = Long.MIN_VALUE;

    private static final int NO_WHAT = -1000, NO_VALUE = -1001;
    private static final int NOT_SO_MANY = -5, NO_LAST_BEAT = -500, FAULTY = -10, ROW_ENDS = 100;
    private static final int NOTHING = -11, CAST = -12, PLACE = -13, SIZE = -14;

    private static final int ANGLE = 0, SPEED = 1, STIFF = 2, DRAG = 3, OFFSET = 4, FORCE = 5, LIFE = 6;
    private static final int PALLETS = 7, CLOCK = 8, BEATS = 9, BANGS = 10, PUSHES = 11, WHEELS = 12;
    private static final int[] LEAST = {-300, -400, 1, 0, -20, 0, 1};
    private static final int[] MOST = {300, 400, 32, 9, 20, 60, 99};
    private static final int[] TOLD_AHEAD = {ANGLE, SPEED, FORCE, BEATS, BANGS, PALLETS};

    private static final int UP = 0, DOWN = 1;
    private static final int MOST_ANGLE = 300, MOST_FORCE = 60, MOST_OFFSET = 20, MOST_STIFF = 32;
    private static final int MOST_CLOCK = 99999, MOST_TICKS = 400;
    private static final int BY_HAND = 0, BY_SPRING = 1, BY_DRAG = 2, BY_KICK = 3, SOURCES = 4;

    private static final int PUSH_SPEED = 0, PUSH_FORCE = 1, PUSH_OFFSET = 2, PUSH_DRAG = 3, MOST_PUSHES = 8;
    private static final int[] PUSH_LEAST = {-99, -99, -20, 0};
    private static final int[] PUSH_MOST = {99, 99, 20, 9};

    private static final int LEAST_TEETH = 2, MOST_TEETH = 99, MOST_WHEELS = 4;
    private static final int MOST_SIGN = 127, MOST_SIGNS = 100, MOST_CLAUSES = 12, MOST_DIGITS = 3;
    private static final char[] LETTERS = {'a', 'v', 's', 'g', 'o', 'f', 'l', 'w', 't'};
    private static final int CLAUSE_WHEEL = 7, CLAUSE_TICKS = 8, NO_FAULT = -1, NO_LETTER = -1, NO_SIGN = -1;

    private static final int MOST_SEEN = 5, MOST_BOOKED = 8, MOST_BOOKED_BEAT = 99;
    private static final int MOST_ODDS = 99, TRIED_SPEED = 20, TRIED_SPEED_STEP = 4, TRIED_SPEEDS = 11;
    private static final int TAPES = 6, MOST_ITEMS = 60;
    private static final int NO_SORT = -1, BYTES = 0, SHORTS = 1, INTS = 2, LONGS = 3, BOOLEANS = 4;

    private final Whole now = new Whole();
    private final Whole kept = new Whole();
    private boolean isKept;
    /** The watch on which all that is only asked goes by, so that the true one stays as it is. */
    private final Balance thought = new Balance(false);
    private final Heard heardAhead = new Heard();
    private final Text text = new Text();
    private final Tape[] tapes = new Tape[TAPES];

    public WatchBeats() {
        for (int i = 0; i < tapes.length; i++) {
            tapes[i] = new Tape();
        }
    }

    // ---- the balance

    public int set(int what, int v) {
        if (what < ANGLE || what > LIFE) {
            return NO_WHAT;
        }
        if (!isSettable(what, v)) {
            return NO_VALUE;
        }
        int was = now.balance.valueOf(what);
        now.balance.putByHand(what, v);
        return was;
    }

    public int told(int what) {
        if (what < ANGLE || what > WHEELS) {
            return NO_WHAT;
        }
        return what == WHEELS ? now.train.wheels : now.balance.valueOf(what);
    }

    public int push(int time, int what, int n) {
        if (what < PUSH_SPEED || what > PUSH_DRAG) {
            return NONE;
        }
        if (!isBetween(time, now.balance.clock, MOST_CLOCK) || !isPushable(what, n)) {
            return BAD;
        }
        if (now.balance.pushes.waiting >= MOST_PUSHES) {
            return FULL;
        }
        now.balance.pushes.add(time, what, n);
        return now.balance.pushes.waiting;
    }

    public int pushOf(int k, int what) {
        Pushes pushes = now.balance.pushes;
        if (k < 0 || k >= pushes.waiting || k >= MOST_PUSHES) {
            return NO_WHAT;
        }
        switch (what) {
            case 0: return pushes.times[k];
            case 1: return pushes.whats[k];
            case 2: return pushes.sizes[k];
            default: return NO_WHAT;
        }
    }

    public int go(int n) {
        if (!isBetween(n, 1, MOST_TICKS)) {
            return BAD;
        }
        if (now.balance.clock > MOST_CLOCK - n) {
            return FULL;
        }
        int beats = 0;
        for (int i = 0; i < n; i++) {
            if (now.balance.tick()) {
                beats++;
            }
        }
        return beats;
    }

    public int wheel(int teeth) {
        if (!isBetween(teeth, LEAST_TEETH, MOST_TEETH)) {
            return BAD;
        }
        if (now.train.wheels >= MOST_WHEELS) {
            return FULL;
        }
        now.train.add(teeth);
        return now.train.wheels - 1;
    }

    public long turns(int wheel, int part) {
        if (wheel < 0 || wheel >= now.train.wheels) {
            return NO;
        }
        return partOfFraction(now.balance.beats, now.train.beatsOfOneTurn(wheel), part);
    }

    public long energy(int what) {
        if (what == SOURCES) {
            return now.balance.energyNow();
        }
        return what >= 0 && what < now.balance.account.length ? now.balance.account[what] : NO;
    }

    public int feed(int sign) {
        if (!isBetween(sign, 0, MOST_SIGN)) {
            return BAD;
        }
        if (text.length >= MOST_SIGNS) {
            return FULL;
        }
        text.add(sign);
        return text.length;
    }

    public int read() {
        int fault = text.parse();
        text.length = 0;
        if (fault != NO_FAULT) {
            return FAULTY - fault;
        }
        int done = 0;
        for (int k = 0; k < text.clauses && k < MOST_CLAUSES; k++) {
            if (isClauseDone(text.whats[k], text.numbers[k])) {
                done++;
            }
        }
        return done;
    }

    // ---- ahead

    public int ahead(int n, int what) {
        if (!isBetween(n, 0, MOST_TICKS) || what < 0 || what >= TOLD_AHEAD.length) {
            return NO_WHAT;
        }
        thinkAhead(n);
        return thought.valueOf(TOLD_AHEAD[what]);
    }

    public long energyAt(int n) {
        if (!isBetween(n, 0, MOST_TICKS)) {
            return NO;
        }
        thinkAhead(n);
        return thought.energyNow();
    }

    public int heard(int k) {
        if (k < 0) {
            return NONE;
        }
        listenFromNow();
        return heardAhead.beatAt(k);
    }

    public int beat(int what) {
        if (!isBetween(what, 0, 4)) {
            return NO_WHAT;
        }
        if (what == 3) {
            return evenest();
        }
        listenFromNow();
        switch (what) {
            case 0: return heardAhead.beats;
            case 1: return heardAhead.gaps();
            case 2: return heardAhead.uneven();
            default: return heardAhead.beats == 0 ? NO_LAST_BEAT : heardAhead.beatAt(heardAhead.beats - 1);
        }
    }

    public int gap(int k) {
        if (k < 0) {
            return NONE;
        }
        listenFromNow();
        return heardAhead.gapAt(k);
    }

    public int longest(int k, int what) {
        if (k < 0 || !isBetween(what, 0, 1)) {
            return NONE;
        }
        listenFromNow();
        int gap = heardAhead.longestGap(k);
        return what == 1 || gap == NOT_SO_MANY ? gap : heardAhead.gapAt(gap);
    }

    // ---- seen, odds

    public int see(int n, int angle) {
        if (n == -1) {
            now.seen.held = 0;
            return 0;
        }
        if (!isBetween(n, 0, MOST_TICKS) || !isBetween(angle, -MOST_ANGLE, MOST_ANGLE)) {
            return BAD;
        }
        if (now.seen.held >= MOST_SEEN) {
            return FULL;
        }
        now.seen.add(n, angle);
        return now.seen.held;
    }

    public int fits(int what) {
        if (!isBetween(what, 0, 1)) {
            return NONE;
        }
        int many = 0;
        int least = NOT_SO_MANY;
        for (int stiff = 1; stiff <= MOST_STIFF; stiff++) {
            if (goesAsSeen(stiff)) {
                many++;
                least = many == 1 ? stiff : least;
            }
        }
        return what == 0 ? many : least;
    }

    public long odds(int n, int part) {
        if (!isBetween(n, 0, MOST_ODDS) || !isBetween(part, 0, 1)) {
            return NO;
        }
        int likely = 0;
        for (int speed = -TRIED_SPEED; speed <= TRIED_SPEED; speed += TRIED_SPEED_STEP) {
            listenWith(SPEED, speed);
            if (heardAhead.beats >= n) {
                likely++;
            }
        }
        return partOfFraction(likely, TRIED_SPEEDS, part);
    }

    public long mean(int part) {
        listenFromNow();
        int gaps = heardAhead.gaps();
        if (gaps == 0) {
            return NO;
        }
        return partOfFraction(heardAhead.beatAt(gaps) - heardAhead.beatAt(0), gaps, part);
    }

    // ---- books, judging, the image, tapes

    public int book(int k, int n) {
        if (k == -1) {
            now.book.held = 0;
            return 0;
        }
        if (!isBetween(k, 0, MOST_BOOKED_BEAT) || !isBetween(n, 0, MOST_TICKS)) {
            return BAD;
        }
        if (now.book.held >= MOST_BOOKED) {
            return FULL;
        }
        now.book.add(k, n);
        return now.book.held;
    }

    public int looked() {
        listenFromNow();
        for (int i = 0; i < now.book.held && i < now.book.first.length; i++) {
            if (heardAhead.beatAt(now.book.first[i]) != now.book.second[i]) {
                return i;
            }
        }
        return NOT_SO_MANY;
    }

    public int judge(int tape, int i) {
        Tape row = tapeAt(tape);
        if (row == null) {
            return NONE;
        }
        if (row.sort != SHORTS && row.sort != NO_SORT) {
            return CAST;
        }
        listenFromNow();
        return judgement(row, i);
    }

    public int image() {
        kept.copy(now);
        isKept = true;
        return now.balance.beats;
    }

    public int undo() {
        if (!isKept) {
            return STATE;
        }
        now.copy(kept);
        return now.balance.beats;
    }

    public int count(int what) {
        switch (what) {
            case 0: return now.seen.held;
            case 1: return now.book.held;
            case 2: return text.length;
            default: return BAD;
        }
    }

    public int tape(int tape, int sort, int n) {
        Tape row = tapeAt(tape);
        if (row == null) {
            return NONE;
        }
        if (sort == NO_SORT) {
            row.clear(NO_SORT, 0);
            return 1;
        }
        if (!isBetween(sort, BYTES, BOOLEANS) || n > MOST_ITEMS) {
            return BAD;
        }
        if (n < 0) {
            return SIZE;
        }
        row.clear(sort, n);
        return 1;
    }

    public int item(int tape, int i, long v) {
        Tape row = tapeAt(tape);
        if (row == null) {
            return NONE;
        }
        if (row.sort == NO_SORT) {
            return NOTHING;
        }
        if (!row.has(i)) {
            return PLACE;
        }
        row.items[i] = row.asItem(v);
        return 1;
    }

    public long peek(int tape, int i) {
        Tape row = tapeAt(tape);
        return row == null || !row.has(i) ? NO : row.items[i];
    }

    public int shift(int tape, int i, int other, int j, int n) {
        Tape from = tapeAt(tape);
        Tape to = tapeAt(other);
        if (from == null || to == null) {
            return NONE;
        }
        if (from.sort == NO_SORT || to.sort == NO_SORT) {
            return NOTHING;
        }
        if (from.sort != to.sort) {
            return CAST;
        }
        if (!from.hasRun(i, n) || !to.hasRun(j, n)) {
            return PLACE;
        }
        System.arraycopy(from.items, i, to.items, j, n);
        return n;
    }

    // ---- what the calls are made of

    private static boolean isBetween(int v, int least, int most) {
        return v >= least && v <= most;
    }

    private static boolean isSettable(int what, int v) {
        return what >= 0 && what < LEAST.length && what < MOST.length && isBetween(v, LEAST[what], MOST[what]);
    }

    private static boolean isPushable(int what, int n) {
        return what >= 0 && what < PUSH_LEAST.length && what < PUSH_MOST.length
            && isBetween(n, PUSH_LEAST[what], PUSH_MOST[what]);
    }

    /** Of a fraction in lowest terms what stands above (part 0) or below (1) the line. */
    private static long partOfFraction(long above, long below, int part) {
        long common = commonDivisor(above, below);
        if (!isBetween(part, 0, 1) || common == 0) {
            return NO;
        }
        return part == 0 ? above / common : below / common;
    }

    private static long commonDivisor(long a, long b) {
        // Each round at least halves one of two, so that 200 rounds are more than two longs can need.
        for (int round = 0; round < 200 && b != 0; round++) {
            long rest = a % b;
            a = b;
            b = rest;
        }
        return a;
    }

    private boolean isClauseDone(int what, int number) {
        if (what == CLAUSE_WHEEL) {
            return wheel(number) >= 0;
        }
        if (what == CLAUSE_TICKS) {
            return go(number) >= 0;
        }
        if (!isSettable(what, number)) {
            return false;
        }
        now.balance.putByHand(what, number);
        return true;
    }

    private void thinkAhead(int n) {
        thought.copy(now.balance);
        for (int i = 0; i < n; i++) {
            thought.tick();
        }
    }

    private void listenFromNow() {
        thought.copy(now.balance);
        heardAhead.listen(thought);
    }

    private void listenWith(int what, int v) {
        thought.copy(now.balance);
        thought.put(what, v);
        heardAhead.listen(thought);
    }

    private int evenest() {
        int best = now.balance.offset;
        long bestScore = NO;
        for (int offset = -MOST_OFFSET; offset <= MOST_OFFSET; offset++) {
            listenWith(OFFSET, offset);
            int uneven = Math.abs(heardAhead.uneven());
            int far = Math.abs(offset - now.balance.offset);
            // Both are below 1000, so that each counts only where what goes ahead of it is alike.
            long score = (heardAhead.beats * 1000L - uneven) * 1000 - far;
            if (score > bestScore) {
                best = offset;
                bestScore = score;
            }
        }
        return best;
    }

    private boolean goesAsSeen(int stiff) {
        thought.copy(now.balance);
        thought.put(STIFF, stiff);
        int last = now.seen.greatestFirst();
        for (int n = 0; n <= last; n++) {
            if (!now.seen.allows(n, thought.angle)) {
                return false;
            }
            thought.tick();
        }
        return true;
    }

    private int judgement(Tape row, int from) {
        for (int k = 0; k < heardAhead.beats; k++) {
            // Written so, for from may be so great that from + k would wrap around.
            if (from < 0 || from >= row.size - k || !row.has(from + k)) {
                return ROW_ENDS + k;
            }
            if (row.items[from + k] != heardAhead.beatAt(k)) {
                return k;
            }
        }
        return NOT_SO_MANY;
    }

    private Tape tapeAt(int tape) {
        return tape >= 0 && tape < tapes.length ? tapes[tape] : null;
    }

    /** All that an image holds. */
    private static final class Whole {
        final Balance balance = new Balance(true);
        final Train train = new Train();
        final Rows seen = new Rows();
        final Rows book = new Rows();

        void copy(Whole other) {
            balance.copy(other.balance);
            train.copy(other.train);
            seen.copy(other.seen);
            book.copy(other.book);
        }
    }

    private static final class Balance {
        int angle, speed, drag, offset, pallets, clock, beats, bangs;
        int stiff = 4;
        int force = 20;
        int life = 10;
        final Pushes pushes = new Pushes();
        final long[] account = new long[SOURCES];
        /** The ENERGY that the account already tells of. */
        long settled;
        /** A watch in thought is never asked for its account, and most ticks are ticks in thought. */
        final boolean isAccounted;

        Balance(boolean isAccounted) {
            this.isAccounted = isAccounted;
        }

        void copy(Balance other) {
            angle = other.angle;
            speed = other.speed;
            stiff = other.stiff;
            drag = other.drag;
            offset = other.offset;
            force = other.force;
            life = other.life;
            pallets = other.pallets;
            clock = other.clock;
            beats = other.beats;
            bangs = other.bangs;
            settled = other.settled;
            pushes.copy(other.pushes);
            for (int i = 0; i < account.length && i < other.account.length; i++) {
                account[i] = other.account[i];
            }
        }

        int valueOf(int what) {
            switch (what) {
                case ANGLE: return angle;
                case SPEED: return speed;
                case STIFF: return stiff;
                case DRAG: return drag;
                case OFFSET: return offset;
                case FORCE: return force;
                case LIFE: return life;
                case PALLETS: return pallets;
                case CLOCK: return clock;
                case BEATS: return beats;
                case BANGS: return bangs;
                case PUSHES: return pushes.waiting;
                default: return NO_WHAT;
            }
        }

        void put(int what, int v) {
            switch (what) {
                case ANGLE: angle = v; break;
                case SPEED: speed = v; break;
                case STIFF: stiff = v; break;
                case DRAG: drag = v; break;
                case OFFSET: offset = v; break;
                case FORCE: force = v; break;
                case LIFE: life = v; break;
                default: break;
            }
        }

        void putByHand(int what, int v) {
            put(what, v);
            settle(BY_HAND);
        }

        long energyNow() {
            return 32L * speed * speed + (long) stiff * angle * angle;
        }

        private void settle(int source) {
            if (!isAccounted || source < 0 || source >= account.length) {
                return;
            }
            long energy = energyNow();
            account[source] += energy - settled;
            settled = energy;
        }

        /** One TICK: whether there was a BEAT in it. */
        boolean tick() {
            bePushed();
            settle(BY_HAND);
            speed -= angle * stiff / 32;
            settle(BY_SPRING);
            beDragged();
            settle(BY_DRAG);
            int angleAhead = angle;
            swing();
            settle(BY_SPRING);
            boolean isBeat = isLetGo(angleAhead);
            if (isBeat) {
                beKicked();
            }
            settle(BY_KICK);
            clock++;
            return isBeat;
        }

        private void bePushed() {
            int done = 0;
            while (done < pushes.waiting && done < MOST_PUSHES && pushes.times[done] == clock) {
                doPush(pushes.whats[done], pushes.sizes[done]);
                done++;
            }
            pushes.removeFirst(done);
        }

        private void doPush(int what, int n) {
            switch (what) {
                case PUSH_SPEED: speed += n; break;
                case PUSH_FORCE: force = Math.max(0, Math.min(MOST_FORCE, force + n)); break;
                case PUSH_OFFSET: offset = n; break;
                case PUSH_DRAG: drag = n; break;
                default: break;
            }
        }

        private void beDragged() {
            if (speed > 0) {
                speed = Math.max(0, speed - drag);
            } else {
                speed = Math.min(0, speed + drag);
            }
        }

        private void swing() {
            angle += speed;
            if (angle > MOST_ANGLE || angle < -MOST_ANGLE) {
                angle = angle > 0 ? MOST_ANGLE : -MOST_ANGLE;
                speed = 0;
                bangs++;
            }
        }

        private boolean isLetGo(int angleAhead) {
            if (force <= 0) {
                return false;
            }
            return pallets == UP ? angleAhead <= offset && angle > offset : angleAhead >= offset && angle < offset;
        }

        private void beKicked() {
            int kick = (force + 3) / 4;
            if (pallets == UP) {
                speed += kick;
                pallets = DOWN;
            } else {
                speed -= kick;
                pallets = UP;
            }
            beats++;
            if (life > 0 && beats % life == 0) {
                force--;
            }
        }
    }

    /** Pushes that wait, by TIME, then as they came, so that those due next are always the first. */
    private static final class Pushes {
        final int[] times = new int[MOST_PUSHES];
        final int[] whats = new int[MOST_PUSHES];
        final int[] sizes = new int[MOST_PUSHES];
        int waiting;

        void add(int time, int what, int size) {
            if (waiting < 0 || waiting >= MOST_PUSHES) {
                return;
            }
            int place = waiting;
            while (place > 0 && times[place - 1] > time) {
                times[place] = times[place - 1];
                whats[place] = whats[place - 1];
                sizes[place] = sizes[place - 1];
                place--;
            }
            times[place] = time;
            whats[place] = what;
            sizes[place] = size;
            waiting++;
        }

        void removeFirst(int many) {
            if (many < 1 || many > waiting) {
                return;
            }
            for (int i = many; i < waiting && i < MOST_PUSHES; i++) {
                times[i - many] = times[i];
                whats[i - many] = whats[i];
                sizes[i - many] = sizes[i];
            }
            waiting -= many;
        }

        void copy(Pushes other) {
            waiting = other.waiting;
            for (int i = 0; i < waiting && i < MOST_PUSHES; i++) {
                times[i] = other.times[i];
                whats[i] = other.whats[i];
                sizes[i] = other.sizes[i];
            }
        }
    }

    private static final class Train {
        final int[] teeth = new int[MOST_WHEELS];
        int wheels;

        void add(int more) {
            if (wheels >= 0 && wheels < teeth.length) {
                teeth[wheels] = more;
                wheels++;
            }
        }

        long beatsOfOneTurn(int wheel) {
            long beats = 2;
            for (int i = 0; i <= wheel && i < teeth.length; i++) {
                beats *= teeth[i];
            }
            return beats;
        }

        void copy(Train other) {
            wheels = other.wheels;
            for (int i = 0; i < teeth.length && i < other.teeth.length; i++) {
                teeth[i] = other.teeth[i];
            }
        }
    }

    /** Rows of two numbers told by hand: what is seen, and the book. */
    private static final class Rows {
        final int[] first = new int[MOST_BOOKED];
        final int[] second = new int[MOST_BOOKED];
        int held;

        void add(int a, int b) {
            if (held >= 0 && held < MOST_BOOKED) {
                first[held] = a;
                second[held] = b;
                held++;
            }
        }

        int greatestFirst() {
            int greatest = -1;
            for (int i = 0; i < held && i < MOST_BOOKED; i++) {
                greatest = Math.max(greatest, first[i]);
            }
            return greatest;
        }

        /** Whether b stands in every row that has a. */
        boolean allows(int a, int b) {
            for (int i = 0; i < held && i < MOST_BOOKED; i++) {
                if (first[i] == a && second[i] != b) {
                    return false;
                }
            }
            return true;
        }

        void copy(Rows other) {
            held = other.held;
            for (int i = 0; i < MOST_BOOKED; i++) {
                first[i] = other.first[i];
                second[i] = other.second[i];
            }
        }
    }

    /** Beats of the next 400 ticks, each by how many ticks it is from now. */
    private static final class Heard {
        final int[] at = new int[MOST_TICKS];
        int beats;

        void listen(Balance watch) {
            beats = 0;
            for (int n = 0; n < MOST_TICKS; n++) {
                if (watch.tick() && beats < at.length) {
                    at[beats] = n;
                    beats++;
                }
            }
        }

        int beatAt(int k) {
            return k >= 0 && k < beats && k < at.length ? at[k] : NOT_SO_MANY;
        }

        int gaps() {
            return Math.max(0, beats - 1);
        }

        int gapAt(int k) {
            return k >= 0 && k < gaps() ? beatAt(k + 1) - beatAt(k) : NOT_SO_MANY;
        }

        int uneven() {
            int uneven = 0;
            int gaps = gaps();
            for (int k = 0; k + 1 < gaps; k += 2) {
                uneven += gapAt(k) - gapAt(k + 1);
            }
            return uneven;
        }

        /** Which gap is the k-th longest. */
        int longestGap(int k) {
            int gaps = gaps();
            for (int gap = 0; gap < gaps; gap++) {
                if (gapsAheadOf(gap) == k) {
                    return gap;
                }
            }
            return NOT_SO_MANY;
        }

        private int gapsAheadOf(int gap) {
            int length = gapAt(gap);
            int many = 0;
            int gaps = gaps();
            for (int i = 0; i < gaps; i++) {
                int other = gapAt(i);
                if (other > length || other == length && i < gap) {
                    many++;
                }
            }
            return many;
        }
    }

    private static final class Text {
        final byte[] signs = new byte[MOST_SIGNS];
        int length;
        /** The clauses of the text that was parsed last. */
        final int[] whats = new int[MOST_CLAUSES];
        final int[] numbers = new int[MOST_CLAUSES];
        int clauses;

        void add(int sign) {
            if (length >= 0 && length < signs.length) {
                signs[length] = (byte) sign;
                length++;
            }
        }

        /** The clauses are noted ahead of any being done, for a fault behind them lets none be done: the FAULT. */
        int parse() {
            clauses = 0;
            int at = 0;
            for (int k = 0; k < MOST_CLAUSES; k++) {
                int what = letterAt(at);
                if (what == NO_LETTER) {
                    return at;
                }
                int digitsFrom = signAt(at + 1) == '-' ? at + 2 : at + 1;
                int end = digitsEnd(digitsFrom);
                if (end == digitsFrom) {
                    return end;
                }
                whats[k] = what;
                numbers[k] = signAt(at + 1) == '-' ? -number(digitsFrom, end) : number(digitsFrom, end);
                clauses = k + 1;
                if (end == length) {
                    return NO_FAULT;
                }
                if (signAt(end) != ';') {
                    return end;
                }
                at = end + 1;
            }
            // A semicolon stands behind the twelfth clause.
            return at - 1;
        }

        private int signAt(int place) {
            return place >= 0 && place < length && place < signs.length ? signs[place] : NO_SIGN;
        }

        private int letterAt(int place) {
            int sign = signAt(place);
            for (int i = 0; i < LETTERS.length; i++) {
                if (LETTERS[i] == sign) {
                    return i;
                }
            }
            return NO_LETTER;
        }

        private int digitsEnd(int from) {
            int end = from;
            while (end < from + MOST_DIGITS && isBetween(signAt(end), '0', '9')) {
                end++;
            }
            return end;
        }

        private int number(int from, int end) {
            int number = 0;
            for (int place = from; place < end; place++) {
                number = number * 10 + signAt(place) - '0';
            }
            return number;
        }
    }

    private static final class Tape {
        int sort = NO_SORT;
        int size;
        /** Items of every sort, as they would be read from a row of that sort. */
        final long[] items = new long[MOST_ITEMS];

        void clear(int newSort, int newSize) {
            sort = newSort;
            size = newSize;
            for (int i = 0; i < items.length; i++) {
                items[i] = 0;
            }
        }

        boolean has(int i) {
            return i >= 0 && i < size && i < items.length;
        }

        boolean hasRun(int i, int n) {
            return n >= 0 && i >= 0 && i <= size - n && size <= items.length;
        }

        long asItem(long v) {
            switch (sort) {
                case BYTES: return (byte) v;
                case SHORTS: return (short) v;
                case INTS: return (int) v;
                case BOOLEANS: return v != 0 ? 1 : 0;
                default: return v;
            }
        }
    }
}
