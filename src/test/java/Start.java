/** Watches in which calls are tried that must leave all as it is: empty, half full, full, and at the clock's end. */
enum Start {
    NEW, BUSY, FULL, LAST_CLOCK;

    /** Twelve clauses as long as can be; what stands behind them in a full text is a FAULT. */
    static final String LONGEST_TEXT =
        "a-111;v-222;s-333;g-444;o-555;f-666;l-777;w-888;t-999;a-100;v-200;s-300";
    static final int TEXT_BYTES = 100;

    WatchBeats watch() {
        switch (this) {
            case BUSY: return busy();
            case FULL: return full();
            case LAST_CLOCK: return atLastClock();
            default: return new WatchBeats();
        }
    }

    private static WatchBeats busy() {
        WatchBeats x = Watches.lively();
        x.wheel(15);
        x.push(9, 0, 5);
        see(x, 2);
        book(x, 1);
        x.image();
        x.go(30);
        x.wheel(7);
        push(x, 3);
        x.see(-1, 0);
        see(x, 3);
        x.book(-1, 0);
        book(x, 3);
        fillTapes(x);
        Watches.feed(x, "v9;s8");
        return x;
    }

    private static WatchBeats full() {
        WatchBeats x = Watches.lively();
        x.go(7);
        for (int i = 0; i < 4; i++) {
            x.wheel(9 + i);
        }
        push(x, 8);
        see(x, 5);
        book(x, 8);
        fillTapes(x);
        Watches.feed(x, LONGEST_TEXT);
        for (int i = LONGEST_TEXT.length(); i < TEXT_BYTES; i++) {
            x.feed('0');
        }
        x.image();
        return x;
    }

    private static WatchBeats atLastClock() {
        WatchBeats x = Watches.atLastClock();
        x.set(1, 33);
        x.set(5, 20);
        x.wheel(8);
        x.tape(0, 1, 2);
        x.item(0, 1, 77);
        x.image();
        x.set(0, 12);
        push(x, 1);
        see(x, 2);
        book(x, 2);
        return x;
    }

    private static void push(WatchBeats x, int many) {
        int clock = x.told(8);
        for (int i = 0; i < many; i++) {
            x.push(Math.min(clock + 20 - 3 * (i / 2), 99999), i % 3, 5 + i);
        }
    }

    /** What will be so, by the STIFF as it is. */
    private static void see(WatchBeats x, int many) {
        for (int i = 0; i < many; i++) {
            x.see(5 + 7 * i, x.ahead(5 + 7 * i, 0));
        }
    }

    /** What is so. */
    private static void book(WatchBeats x, int many) {
        for (int i = 0; i < many; i++) {
            x.book(i, x.heard(i));
        }
    }

    private static void fillTapes(WatchBeats x) {
        x.tape(0, 1, 3);
        x.tape(1, 0, 2);
        x.tape(2, 2, 4);
        x.tape(3, 3, 2);
        x.tape(4, 4, 2);
        for (int tape = 0; tape < 5; tape++) {
            x.item(tape, 0, 11 + tape);
            x.item(tape, 1, -40 - tape);
        }
    }
}
