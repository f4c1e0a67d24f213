/** Promise 6: ticks, each of their steps (a) to (f) at its bounds, and how many go by. */
public final class TickTest {
    public static void main(String[] args) {
        ticksTaken();
        ticksRefused();
        clockFull();
        badAheadOfFull();
        beatsOfTicks();
        onlyPushesOfThisClock();
        forceWithinBounds();
        forceOneBehindTheOther();
        speedWithoutBound();
        offsetAndDragBecome();
        pushesAheadOfAll();
        pullCutTowardZero();
        dragTowardZero();
        dragBehindPull();
        bangs();
        bangAndBeat();
        beatUp();
        beatDown();
        beatWithForce();
        kicks();
        lifeDividesBeats();
        lifeOfNinetyNine();
        forceAheadOfWhatFollows();
        clockOneMore();
        Check.end();
    }

    private static void ticksTaken() {
        Check.sentence("Promise 6", "n TICKS (1 .. 400) go by truly");
        for (int n : Values.atBounds(1, 400)) {
            WatchBeats x = Watches.idle();
            x.set(1, 0);
            x.push(n - 1, 0, 1);
            x.push(n, 0, 1);
            Check.due("go(" + n + ")", x.go(n), 0);
            Check.due("CLOCK", x.told(8), n);
            Check.due("the last TICK went by, and none behind it", x.told(1), 1);
        }
    }

    private static void ticksRefused() {
        Check.sentence("Promise 6", "BAD;");
        for (int n : Values.outside(1, 400)) {
            Still.refused("go(" + n + ")", WatchBeats.BAD, x -> x.go(n));
        }
    }

    private static WatchBeats clockAt(int clock) {
        WatchBeats x = Watches.atClock(clock);
        x.set(1, 2);
        return x;
    }

    private static void clockFull() {
        Check.sentence("Promise 6", "FULL: CLOCK would be above 99999.");
        int[][] taken = {{99599, 400}, {99600, 399}, {99998, 1}, {99500, 400}};
        for (int[] row : taken) {
            WatchBeats x = clockAt(row[0]);
            Check.due("CLOCK " + row[0] + ": go(" + row[1] + ")", x.go(row[1]), 0);
            Check.due("CLOCK", x.told(8), row[0] + row[1]);
        }
        int[][] refused = {{99600, 400}, {99700, 400}, {99998, 2}, {99999, 1}, {99999, 2}, {99999, 400}};
        for (int[] row : refused) {
            Still.refusedBy("CLOCK " + row[0] + ": go(" + row[1] + ")", () -> clockAt(row[0]), WatchBeats.FULL,
                x -> x.go(row[1]));
        }
        Still.refusedIn(Start.LAST_CLOCK, "go(1)", WatchBeats.FULL, x -> x.go(1));
        WatchBeats x = clockAt(99998);
        Check.due("two are too many", x.go(2), WatchBeats.FULL);
        Check.due("one isn't", x.go(1), 0);
        Check.due("another is", x.go(1), WatchBeats.FULL);
    }

    private static void badAheadOfFull() {
        Check.sentence("Promise 6", "BAD; FULL");
        for (int n : Values.outside(1, 400)) {
            Still.refusedIn(Start.LAST_CLOCK, "go(" + n + ")", WatchBeats.BAD, x -> x.go(n));
        }
    }

    private static void beatsOfTicks() {
        Check.sentence("Promise 6", "how many BEATS there were in them");
        WatchBeats x = Watches.scripted();
        Check.due("two", x.go(2), 2);
        Check.due("of three", x.go(3), 2);
        Check.due("none", x.go(3), 0);
        Check.due("the last", x.go(400), 1);
        Check.due("all BEATS", x.told(9), 5);
        Check.due("CLOCK", x.told(8), 408);
    }

    private static WatchBeats watch(int angle, int speed, int stiff, int drag, int offset, int force) {
        return Watches.watch(angle, speed, stiff, drag, offset, force);
    }

    /** ANGLE, SPEED, PALLETS, BANGS, FORCE and BEATS behind one tick. */
    private static void tickDue(String when, WatchBeats x, int... want) {
        int[] whats = {0, 1, 7, 10, 5, 9};
        x.go(1);
        for (int i = 0; i < want.length; i++) {
            Check.due(when + ": told(" + whats[i] + ") behind a TICK", x.told(whats[i]), want[i]);
        }
    }

    private static void onlyPushesOfThisClock() {
        Check.sentence("TICK (a)", "PUSHES whose TIME is CLOCK");
        WatchBeats x = Watches.idle();
        x.go(5);
        x.push(6, 3, 2);
        x.push(5, 3, 1);
        x.push(7, 3, 3);
        int[] drags = {1, 2, 3, 3};
        for (int i = 0; i < drags.length; i++) {
            x.go(1);
            Check.due("DRAG", x.told(3), drags[i]);
            Check.due("how many wait", x.told(11), Math.max(0, 2 - i));
        }
    }

    private static void forceDue(int force, int n, int want) {
        WatchBeats x = Watches.idle();
        x.set(5, force);
        x.push(0, 1, n);
        x.go(1);
        Check.due("FORCE " + force + " and " + n + " more", x.told(5), want);
    }

    private static void forceWithinBounds() {
        Check.sentence("PUSHES", "1 FORCE is n more, 0 .. 60, else the bound");
        forceDue(50, 9, 59);
        forceDue(50, 10, 60);
        forceDue(50, 11, 60);
        forceDue(60, 1, 60);
        forceDue(60, 99, 60);
        forceDue(0, 60, 60);
        forceDue(0, 61, 60);
        forceDue(0, 99, 60);
        forceDue(10, -9, 1);
        forceDue(10, -10, 0);
        forceDue(10, -11, 0);
        forceDue(0, -1, 0);
        forceDue(0, -99, 0);
        forceDue(60, -60, 0);
        forceDue(60, -61, 0);
        forceDue(60, -59, 1);
        forceDue(30, 0, 30);
    }

    private static void forceOneBehindTheOther() {
        Check.sentence("TICK (a)", "one behind the other as they came (of FORCE within 0 .. 60");
        WatchBeats x = Watches.idle();
        x.push(0, 1, 99);
        x.push(0, 1, -30);
        x.push(1, 1, -99);
        x.push(1, 1, 5);
        x.go(1);
        Check.due("60, then 30 less", x.told(5), 30);
        x.go(1);
        Check.due("0, then 5 more", x.told(5), 5);
        WatchBeats y = Watches.idle();
        y.push(0, 2, 9);
        y.push(0, 3, 7);
        y.push(0, 2, -9);
        y.push(0, 3, 2);
        y.go(1);
        Check.due("the later OFFSET", y.told(4), -9);
        Check.due("the later DRAG", y.told(3), 2);
    }

    private static void speedWithoutBound() {
        Check.sentence("TICK (a)", "of SPEED without a bound");
        WatchBeats x = watch(-300, 400, 1, 0, 0, 0);
        x.push(0, 0, 99);
        tickDue("400 and 99, pulled by 9", x, 208, 508, 0, 0, 0, 0);
        WatchBeats y = watch(300, -400, 1, 0, 0, 0);
        y.push(0, 0, -99);
        tickDue("-400 less 99, pulled by 9", y, -208, -508, 0, 0, 0, 0);
        WatchBeats far = watch(0, 400, 1, 0, 0, 0);
        for (int i = 0; i < 8; i++) {
            far.push(0, 0, 99);
        }
        far.go(1);
        Check.due("ENERGY of SPEED 400 and eight times 99", far.energy(0), 32L * (400 + 8 * 99) * (400 + 8 * 99));
        Check.sentence("TICK (f)", "SPEED is held by nothing else");
        WatchBeats kicked = watch(-300, 400, 32, 0, 0, 60);
        kicked.push(0, 0, -99);
        // 301 and the pull's 300 carry it from -300 to 1 beyond 300.
        tickDue("a pull above 400", kicked, 300, 15, 1, 1, 60, 1);
        WatchBeats fast = watch(-300, 400, 1, 0, 0, 60);
        fast.push(0, 0, 99);
        tickDue("a kick above 400", fast, 208, 523, 1, 0, 60, 1);
    }

    private static void offsetAndDragBecome() {
        Check.sentence("PUSHES", "2 OFFSET becomes n; 3 DRAG becomes n");
        int[] offsets = Values.atBounds(-20, 20);
        int[] drags = Values.atBounds(0, 9);
        for (int i = 0; i < 4; i++) {
            WatchBeats x = Watches.idle();
            x.set(4, 3);
            x.set(3, 4);
            x.push(0, 2, offsets[i]);
            x.push(1, 3, drags[i]);
            x.go(1);
            Check.due("OFFSET", x.told(4), offsets[i]);
            Check.due("DRAG still", x.told(3), 4);
            x.go(1);
            Check.due("DRAG", x.told(3), drags[i]);
            Check.due("OFFSET still", x.told(4), offsets[i]);
        }
    }

    private static void pushesAheadOfAll() {
        Check.sentence("TICK (a)", "PUSHES whose TIME is CLOCK, one behind the other");
        WatchBeats late = watch(0, 0, 4, 0, 0, 0);
        late.push(0, 0, 10);
        late.push(0, 1, 20);
        tickDue("SPEED and FORCE count in this TICK", late, 10, 15, 1, 0, 20, 1);
        WatchBeats dragged = watch(0, 10, 4, 0, 0, 20);
        dragged.push(0, 3, 9);
        dragged.push(0, 2, 1);
        tickDue("DRAG and OFFSET count in this TICK", dragged, 1, 1, 0, 0, 20, 0);
    }

    private static void pullCutTowardZero() {
        Check.sentence("TICK (b)", "SPEED is less by (ANGLE times STIFF) by 32");
        int[][] pulls = {{31, 1, 0}, {32, 1, 1}, {63, 1, 1}, {64, 1, 2}, {1, 31, 0}, {1, 32, 1}, {300, 1, 9},
            {300, 32, 300}, {0, 32, 0}, {15, 2, 0}, {16, 2, 1}};
        for (int[] row : pulls) {
            String when = "ANGLE " + row[0] + ", STIFF " + row[1];
            tickDue(when, watch(row[0], 0, row[1], 0, 0, 0), row[0] - row[2], -row[2]);
        }
        Check.sentence("1 THE BALANCE", "All quotients are cut toward 0.");
        for (int[] row : pulls) {
            String when = "ANGLE -" + row[0] + ", STIFF " + row[1];
            tickDue(when, watch(-row[0], 0, row[1], 0, 0, 0), row[2] - row[0], row[2]);
        }
    }

    private static void dragTowardZero() {
        Check.sentence("TICK (c)", "SPEED is nearer to 0 by DRAG (0, if it isn't that far from it)");
        int[][] drags = {{10, 9, 1}, {9, 9, 0}, {8, 9, 0}, {1, 9, 0}, {0, 9, 0}, {1, 1, 0}, {2, 1, 1}, {1, 0, 1},
            {300, 9, 291}};
        for (int[] row : drags) {
            tickDue("SPEED " + row[0] + ", DRAG " + row[1], watch(0, row[0], 1, row[1], 0, 0), row[2], row[2]);
            tickDue("SPEED -" + row[0] + ", DRAG " + row[1], watch(0, -row[0], 1, row[1], 0, 0), -row[2], -row[2]);
        }
    }

    private static void dragBehindPull() {
        Check.sentence("TICK (c)", "(0, if it isn't that far from it); (d)");
        tickDue("3 less 2 of the pull", watch(64, 3, 1, 2, 0, 0), 64, 0);
        tickDue("-3 and 2 of the pull", watch(-64, -3, 1, 2, 0, 0), -64, 0);
        tickDue("to the other side", watch(64, 1, 1, 2, 0, 0), 64, 0);
    }

    private static void bangs() {
        Check.sentence("TICK (d)", "if it is above 300 (below -300) it is 300 (-300), SPEED is 0, BANGS is 1 more");
        tickDue("to 299", watch(290, 18, 1, 0, 0, 0), 299, 9, 0, 0, 0, 0);
        tickDue("to 300", watch(290, 19, 1, 0, 0, 0), 300, 10, 0, 0, 0, 0);
        tickDue("to 301", watch(290, 20, 1, 0, 0, 0), 300, 0, 0, 1, 0, 0);
        tickDue("to -299", watch(-290, -18, 1, 0, 0, 0), -299, -9, 0, 0, 0, 0);
        tickDue("to -300", watch(-290, -19, 1, 0, 0, 0), -300, -10, 0, 0, 0, 0);
        tickDue("to -301", watch(-290, -20, 1, 0, 0, 0), -300, 0, 0, 1, 0, 0);
        WatchBeats far = watch(300, 400, 1, 0, 0, 0);
        tickDue("far beyond", far, 300, 0, 0, 1, 0, 0);
        far.set(1, 50);
        tickDue("and again", far, 300, 0, 0, 2, 0, 0);
        far.set(1, -400);
        tickDue("down", far, -109, -409, 0, 2, 0, 0);
        tickDue("and at the other side", far, -300, 0, 0, 3, 0, 0);
    }

    private static void bangAndBeat() {
        Check.sentence("TICK (d)", "(a BEAT may follow in that TICK)");
        tickDue("up", watch(0, 400, 4, 0, 0, 20), 300, 5, 1, 1, 20, 1);
        WatchBeats x = down(0, -400, 0);
        tickDue("down", x, -300, -1, 0, 1, 3, 2);
        tickDue("without force none", watch(0, 400, 4, 0, 0, 0), 300, 0, 0, 1, 0, 0);
    }

    private static void upDue(int offset, int ahead, int behind, boolean isBeat) {
        WatchBeats x = watch(ahead, behind - ahead, 1, 0, offset, 1);
        String when = "OFFSET " + offset + ", UP, ANGLE from " + ahead + " to " + behind;
        tickDue(when, x, behind, behind - ahead + (isBeat ? 1 : 0), isBeat ? 1 : 0, 0, 1, isBeat ? 1 : 0);
    }

    private static void beatUp() {
        Check.sentence("TICK (e)", "PALLETS are UP, ANGLE was OFFSET or less ahead of (d) and is above OFFSET now");
        for (int offset : new int[] {-20, -1, 0, 1, 20}) {
            upDue(offset, offset, offset + 1, true);
            upDue(offset, offset - 1, offset + 1, true);
            upDue(offset, offset - 5, offset + 5, true);
            upDue(offset, offset, offset, false);
            upDue(offset, offset - 1, offset, false);
            upDue(offset, offset + 1, offset + 2, false);
            upDue(offset, offset + 1, offset + 1, false);
            upDue(offset, offset, offset - 1, false);
            upDue(offset, offset + 1, offset - 1, false);
        }
    }

    /** A watch after its first BEAT: PALLETS are DOWN, FORCE is 4, each second BEAT takes 1 from it. */
    private static WatchBeats down(int angle, int speed, int offset) {
        WatchBeats x = watch(0, 1, 1, 0, 0, 4);
        x.set(6, 2);
        x.go(1);
        x.set(0, angle);
        x.set(1, speed);
        x.set(4, offset);
        return x;
    }

    private static void downDue(int offset, int ahead, int behind, boolean isBeat) {
        String when = "OFFSET " + offset + ", DOWN, ANGLE from " + ahead + " to " + behind;
        tickDue(when, down(ahead, behind - ahead, offset), behind, behind - ahead - (isBeat ? 1 : 0), isBeat ? 0 : 1, 0,
            isBeat ? 3 : 4, isBeat ? 2 : 1);
    }

    private static void beatDown() {
        Check.sentence("TICK (e)", "they are DOWN, ANGLE was OFFSET or more ahead of (d) and is below OFFSET now");
        for (int offset : new int[] {-20, -1, 0, 1, 20}) {
            downDue(offset, offset, offset - 1, true);
            downDue(offset, offset + 1, offset - 1, true);
            downDue(offset, offset + 5, offset - 5, true);
            downDue(offset, offset, offset, false);
            downDue(offset, offset + 1, offset, false);
            downDue(offset, offset - 1, offset - 2, false);
            downDue(offset, offset - 1, offset - 1, false);
            downDue(offset, offset, offset + 1, false);
            downDue(offset, offset - 1, offset + 1, false);
        }
    }

    private static void beatWithForce() {
        Check.sentence("TICK (e)", "if FORCE is above 0");
        tickDue("FORCE 0, UP", watch(0, 5, 1, 0, 0, 0), 5, 5, 0, 0, 0, 0);
        tickDue("FORCE 1, UP", watch(0, 5, 1, 0, 0, 1), 5, 6, 1, 0, 1, 1);
        WatchBeats spent = down(0, -5, 0);
        spent.set(5, 0);
        tickDue("FORCE 0, DOWN", spent, -5, -5, 1, 0, 0, 1);
        WatchBeats pushed = watch(0, 5, 1, 0, 0, 1);
        pushed.push(0, 1, -1);
        tickDue("FORCE pushed to 0", pushed, 5, 5, 0, 0, 0, 0);
    }

    private static void kicks() {
        Check.sentence("TICK (e)", "KICK being FORCE and 3, together, by 4");
        for (int force = 1; force <= 60; force++) {
            int kick = 1;
            while (4 * kick < force) {
                kick++;
            }
            tickDue("FORCE " + force + ", UP", watch(0, 5, 1, 0, 0, force), 5, 5 + kick, 1, 0, force, 1);
            WatchBeats x = down(0, -5, 0);
            x.set(5, force);
            x.set(6, 99);
            tickDue("FORCE " + force + ", DOWN", x, -5, -5 - kick, 0, 0, force, 2);
        }
    }

    /** One more BEAT, brought about by hand. */
    private static void beat(WatchBeats x) {
        x.set(0, 0);
        x.set(1, x.told(7) == 0 ? 5 : -5);
        Check.due("a BEAT", x.go(1), 1);
    }

    private static void lifeDividesBeats() {
        Check.sentence("TICK (e)", "if LIFE divides BEATS then, FORCE is 1 less");
        WatchBeats each = watch(0, 0, 1, 0, 0, 3);
        each.set(6, 1);
        for (int force = 2; force >= 0; force--) {
            beat(each);
            Check.due("LIFE 1: FORCE", each.told(5), force);
        }
        each.set(0, 0);
        each.set(1, -5);
        Check.due("no force, no BEAT", each.go(1), 0);
        Check.due("FORCE stays 0", each.told(5), 0);
        WatchBeats x = watch(0, 0, 1, 0, 0, 10);
        x.set(6, 3);
        int[] forces = {10, 10, 9, 9, 9, 8};
        for (int force : forces) {
            beat(x);
            Check.due("LIFE 3: FORCE", x.told(5), force);
        }
        x.set(6, 7);
        beat(x);
        Check.due("the seventh of a LIFE of 7", x.told(5), 7);
        x.set(6, 4);
        beat(x);
        Check.due("the eighth of a LIFE of 4", x.told(5), 6);
        x.set(6, 18);
        beat(x);
        Check.due("9 by 18 isn't whole", x.told(5), 6);
    }

    private static void lifeOfNinetyNine() {
        Check.sentence("1 THE BALANCE", "LIFE (1 .. 99;");
        WatchBeats x = watch(0, 0, 1, 0, 0, 10);
        x.set(6, 99);
        for (int i = 1; i <= 98; i++) {
            beat(x);
        }
        Check.due("FORCE behind 98 BEATS", x.told(5), 10);
        beat(x);
        Check.due("FORCE behind 99 BEATS", x.told(5), 9);
        beat(x);
        Check.due("FORCE behind 100 BEATS", x.told(5), 9);
    }

    private static void forceAheadOfWhatFollows() {
        Check.sentence("TICK (e)", "(FORCE as it is ahead of what follows)");
        WatchBeats x = watch(0, 5, 1, 0, 0, 5);
        x.set(6, 1);
        tickDue("a kick of 5, which is 4 then", x, 5, 7, 1, 0, 4, 1);
        WatchBeats last = watch(0, 5, 1, 0, 0, 1);
        last.set(6, 1);
        tickDue("the last force kicks, and is gone", last, 5, 6, 1, 0, 0, 1);
    }

    private static void clockOneMore() {
        Check.sentence("TICK (f)", "CLOCK is 1 more.");
        WatchBeats x = Watches.lively();
        for (int clock = 1; clock <= 20; clock++) {
            x.go(1);
            Check.due("CLOCK", x.told(8), clock);
        }
    }
}
