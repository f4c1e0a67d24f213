/** Promises 10 and 11: the text and the set-ups that are read from it. */
public final class TextTest {
    public static void main(String[] args) {
        promise10();
        promise11Faults();
        promise11Clauses();
        promise11Refused();
        Check.end();
    }

    private static void promise10() {
        WatchBeats x = new WatchBeats();
        for (int sign : new int[] {-1, 128, Integer.MIN_VALUE, Integer.MAX_VALUE}) {
            Check.due("feed refused", x.feed(sign), WatchBeats.BAD);
        }
        Check.due("the least sign", x.feed(0), 1);
        Check.due("the greatest sign", x.feed(127), 2);
        for (int i = 3; i <= 100; i++) {
            Check.due("feed", x.feed('a'), i);
        }
        Check.due("one too many", x.feed('a'), WatchBeats.FULL);
        Check.due("BAD goes ahead of FULL", x.feed(128), WatchBeats.BAD);
        Check.due("a hundred", x.count(2), 100);
        Check.due("read of a sign 0", x.read(), -10);
        Check.due("feed behind read", x.feed('a'), 1);
    }

    private static void faultDue(String text, int fault) {
        WatchBeats x = new WatchBeats();
        Check.due("read of '" + text + "'", Watches.read(x, text), -10 - fault);
        Check.due("THE TEXT is empty behind a fault", x.count(2), 0);
        Watches.sameDue("a fault in '" + text + "'", Watches.allOf(x), Watches.allOf(new WatchBeats()));
    }

    private static void promise11Faults() {
        faultDue("", 0);
        faultDue(";", 0);
        faultDue("x1", 0);
        faultDue("A1", 0);
        faultDue(" a1", 0);
        faultDue("1", 0);
        faultDue("-1", 0);
        faultDue("a", 1);
        faultDue("a;", 1);
        faultDue("a 1", 1);
        faultDue("a+1", 1);
        faultDue("aa1", 1);
        faultDue("a-", 2);
        faultDue("a-;", 2);
        faultDue("a--1", 2);
        faultDue("a-x", 2);
        faultDue("a1234", 4);
        faultDue("a-1234", 5);
        faultDue("a1-", 2);
        faultDue("a1 ", 2);
        faultDue("a1,v2", 2);
        faultDue("a1v2", 2);
        faultDue("a1;", 3);
        faultDue("a1;;v2", 3);
        faultDue("a1; v2", 3);
        faultDue("a5;v6;q7", 6);
        faultDue("a5;v6;s", 7);
        faultDue("a1/", 2);
        faultDue("a/1", 1);
        faultDue("a:1", 1);
        String eleven = "a1;a1;a1;a1;a1;a1;a1;a1;a1;a1;a1;";
        faultDue(eleven, 33);
        faultDue(eleven + "a1;", 35);
        faultDue(eleven + "a1;a1", 35);
        faultDue(eleven + "a1111", 37);
    }

    private static void promise11Clauses() {
        WatchBeats x = new WatchBeats();
        Check.due("read all", Watches.read(x, "a-90;v12;s9;g2;o-7;f60;l3;w30;w2;t1"), 10);
        // The pull is 90 * 9 / 32 = 25 upward, the drag 2.
        Watches.toldDue("all", x, -55, 35, 9, 2, -7, 60, 3, 0, 1, 0, 0, 0, 2);
        long hand = 32L * 144 + 9 * 8100;
        Watches.energiesDue("clauses are by hand, ticks are not", x, hand,
            32L * (37 * 37 - 144) + 9L * (55 * 55 - 90 * 90), 32L * (35 * 35 - 37 * 37), 0);
        Check.due("THE TEXT is empty", x.count(2), 0);
        Check.due("read of nothing", x.read(), -10);
        Check.due("leading zeros", Watches.read(x, "a007;v-00;s032"), 3);
        Watches.toldDue("leading zeros", x, 7, 0, 32);
        Check.due("twelve", Watches.read(x, "a1;a2;a3;a4;a5;a6;a7;a8;a9;a10;a11;a12"), 12);
        Check.due("one behind the other", x.told(0), 12);
        Check.due("ticks go by", Watches.read(Watches.scripted(), "t400"), 1);
        WatchBeats y = Watches.scripted();
        Check.due("ticks between", Watches.read(y, "t3;v0;a-1;t400"), 4);
        Check.due("the clock behind ticks", y.told(8), 403);
    }

    private static void promise11Refused() {
        WatchBeats x = new WatchBeats();
        String refused = "a301;v401;s0;s33;g10;o-21;f61;f-1;l0;l100;t0;t401";
        Check.due("twelve refused", Watches.read(x, refused), 0);
        Watches.sameDue("twelve refused", Watches.allOf(x), Watches.allOf(new WatchBeats()));
        Check.due("some refused", Watches.read(x, "a-300;a-301;v-400;v-401;w1;w100;w-5;g-1;t-1;g9"), 3);
        Watches.toldDue("some refused", x, -300, -400, 4, 9, 0, 20, 10, 0, 0, 0, 0, 0, 0);
        Check.due("a fifth wheel is refused", Watches.read(x, "w2;w3;w4;w5;w6"), 4);
        Check.due("four wheels", x.told(12), 4);
        WatchBeats last = Watches.atLastClock();
        Check.due("ticks beyond the last clock are refused", Watches.read(last, "t1;a5"), 1);
        Check.due("the clock stays", last.told(8), 99999);
    }
}
