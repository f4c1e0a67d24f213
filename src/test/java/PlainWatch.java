import java.math.BigInteger;
import java.util.ArrayList;
import java.util.Arrays;
import java.util.Comparator;
import java.util.List;
import java.util.regex.Matcher;
import java.util.regex.Pattern;

/**
 * The document once more, written for being read and with all that the Java library has, not for the rules of
 * LANGUAGE.md: what WatchBeats answers is compared with what this answers.
 */
final class PlainWatch {
    private static final long NO = Long.MIN_VALUE;

    /** All that an image holds; each tick of it can be taken in a copy. */
    private static final class State {
        int[] v = {0, 0, 4, 0, 0, 20, 10, 0, 0, 0, 0};
        long[] account = new long[4];
        List<int[]> pushes = new ArrayList<>();
        List<Integer> teeth = new ArrayList<>();
        List<int[]> seen = new ArrayList<>();
        List<int[]> book = new ArrayList<>();

        State copy() {
            State other = new State();
            other.v = v.clone();
            other.account = account.clone();
            other.pushes.addAll(pushes);
            other.teeth.addAll(teeth);
            other.seen.addAll(seen);
            other.book.addAll(book);
            return other;
        }

        State with(int what, int value) {
            State other = copy();
            other.v[what] = value;
            return other;
        }

        long energy() {
            return 32L * v[1] * v[1] + (long) v[2] * v[0] * v[0];
        }

        boolean tick() {
            long before = energy();
            List<int[]> waiting = new ArrayList<>();
            for (int[] push : pushes) {
                if (push[0] != v[8]) {
                    waiting.add(push);
                } else if (push[1] == 0) {
                    v[1] += push[2];
                } else if (push[1] == 1) {
                    v[5] += push[2];
                    v[5] = v[5] < 0 ? 0 : v[5] > 60 ? 60 : v[5];
                } else {
                    v[push[1] == 2 ? 4 : 3] = push[2];
                }
            }
            pushes = waiting;
            account[0] += energy() - before;
            before = energy();
            v[1] = v[1] - v[0] * v[2] / 32;
            account[1] += energy() - before;
            before = energy();
            v[1] = Integer.signum(v[1]) * Math.max(0, Math.abs(v[1]) - v[3]);
            account[2] += energy() - before;
            before = energy();
            int was = v[0];
            v[0] += v[1];
            if (Math.abs(v[0]) > 300) {
                v[0] = 300 * Integer.signum(v[0]);
                v[1] = 0;
                v[10]++;
            }
            account[1] += energy() - before;
            before = energy();
            // With the pallets down all is as with the pallets up, seen in a mirror.
            int side = v[7] == 0 ? 1 : -1;
            boolean beat = v[5] > 0 && side * was <= side * v[4] && side * v[0] > side * v[4];
            if (beat) {
                v[1] += side * ((v[5] + 3) / 4);
                v[7] = 1 - v[7];
                v[9]++;
                v[5] -= v[9] % v[6] == 0 ? 1 : 0;
            }
            account[3] += energy() - before;
            v[8]++;
            return beat;
        }

        State later(int n) {
            State other = copy();
            for (int i = 0; i < n; i++) {
                other.tick();
            }
            return other;
        }

        List<Integer> heard() {
            State other = copy();
            List<Integer> heard = new ArrayList<>();
            for (int i = 0; i < 400; i++) {
                if (other.tick()) {
                    heard.add(other.v[8] - 1 - v[8]);
                }
            }
            return heard;
        }
    }

    private State now = new State();
    private State kept;
    private StringBuilder text = new StringBuilder();
    private final long[][] tapes = new long[6][];
    private final int[] sorts = new int[6];

    private static boolean in(int v, int least, int most) {
        return least <= v && v <= most;
    }

    private static boolean settable(int what, int v) {
        int[] least = {-300, -400, 1, 0, -20, 0, 1};
        int[] most = {300, 400, 32, 9, 20, 60, 99};
        return in(v, least[what], most[what]);
    }

    private static long part(long above, long below, int part) {
        BigInteger common = BigInteger.valueOf(above).gcd(BigInteger.valueOf(below));
        return in(part, 0, 1) ? (part == 0 ? above : below) / common.longValue() : NO;
    }

    int set(int what, int v) {
        if (!in(what, 0, 6)) {
            return -1000;
        }
        if (!settable(what, v)) {
            return -1001;
        }
        long before = now.energy();
        int was = now.v[what];
        now.v[what] = v;
        now.account[0] += now.energy() - before;
        return was;
    }

    int told(int what) {
        return !in(what, 0, 12) ? -1000 : what == 12 ? now.teeth.size() : what == 11 ? now.pushes.size() : now.v[what];
    }

    int push(int time, int what, int n) {
        if (!in(what, 0, 3)) {
            return -1;
        }
        int most = what == 3 ? 9 : what == 2 ? 20 : 99;
        if (!in(time, now.v[8], 99999) || !in(n, what == 3 ? 0 : -most, most)) {
            return -2;
        }
        if (now.pushes.size() == 8) {
            return -4;
        }
        now.pushes.add(new int[] {time, what, n});
        return now.pushes.size();
    }

    int pushOf(int k, int what) {
        List<int[]> byTime = new ArrayList<>(now.pushes);
        byTime.sort(Comparator.comparingInt(push -> push[0]));
        return in(k, 0, byTime.size() - 1) && in(what, 0, 2) ? byTime.get(k)[what] : -1000;
    }

    int go(int n) {
        if (!in(n, 1, 400)) {
            return -2;
        }
        if (now.v[8] + n > 99999) {
            return -4;
        }
        int before = now.v[9];
        now = now.later(n);
        return now.v[9] - before;
    }

    int wheel(int teeth) {
        if (!in(teeth, 2, 99)) {
            return -2;
        }
        if (now.teeth.size() == 4) {
            return -4;
        }
        now.teeth.add(teeth);
        return now.teeth.size() - 1;
    }

    long turns(int wheel, int part) {
        if (!in(wheel, 0, now.teeth.size() - 1)) {
            return NO;
        }
        long below = 2;
        for (int teeth : now.teeth.subList(0, wheel + 1)) {
            below *= teeth;
        }
        return part(now.v[9], below, part);
    }

    long energy(int what) {
        return what == 4 ? now.energy() : in(what, 0, 3) ? now.account[what] : NO;
    }

    int feed(int sign) {
        if (!in(sign, 0, 127)) {
            return -2;
        }
        if (text.length() == 100) {
            return -4;
        }
        text.append((char) sign);
        return text.length();
    }

    private static final String CLAUSE = "[avsgoflwt]-?[0-9]{1,3}";
    private static final Pattern SET_UP = Pattern.compile(CLAUSE + "(;" + CLAUSE + "){0,11}");

    /** Whether a set-up begins so, for all texts that are long enough: hitEnd() says that more could follow. */
    private static boolean begins(String start) {
        Matcher matcher = SET_UP.matcher(start);
        return matcher.matches() || matcher.hitEnd();
    }

    int read() {
        String all = text.toString();
        text = new StringBuilder();
        if (!SET_UP.matcher(all).matches()) {
            int good = 0;
            while (good < all.length() && begins(all.substring(0, good + 1))) {
                good++;
            }
            return -10 - good;
        }
        int done = 0;
        for (String clause : all.split(";")) {
            int number = Integer.parseInt(clause.substring(1));
            int what = "avsgofl".indexOf(clause.charAt(0));
            if (what >= 0 && settable(what, number)) {
                set(what, number);
                done++;
            } else if (clause.charAt(0) == 'w' && wheel(number) >= 0 || clause.charAt(0) == 't' && go(number) >= 0) {
                done++;
            }
        }
        return done;
    }

    int ahead(int n, int what) {
        int[] whats = {0, 1, 5, 9, 10, 7};
        return in(n, 0, 400) && in(what, 0, 5) ? now.later(n).v[whats[what]] : -1000;
    }

    long energyAt(int n) {
        return in(n, 0, 400) ? now.later(n).energy() : NO;
    }

    int heard(int k) {
        List<Integer> heard = now.heard();
        return k < 0 ? -1 : k < heard.size() ? heard.get(k) : -5;
    }

    private static List<Integer> gaps(List<Integer> heard) {
        List<Integer> gaps = new ArrayList<>();
        for (int k = 1; k < heard.size(); k++) {
            gaps.add(heard.get(k) - heard.get(k - 1));
        }
        return gaps;
    }

    private static int uneven(List<Integer> gaps) {
        int uneven = 0;
        for (int pair = 0; pair < gaps.size() / 2; pair++) {
            uneven += gaps.get(2 * pair) - gaps.get(2 * pair + 1);
        }
        return uneven;
    }

    private int evenest() {
        List<int[]> tried = new ArrayList<>();
        for (int offset = -20; offset <= 20; offset++) {
            List<Integer> heard = now.with(4, offset).heard();
            int uneven = Math.abs(uneven(gaps(heard)));
            tried.add(new int[] {-heard.size(), uneven, Math.abs(offset - now.v[4]), offset});
        }
        tried.sort(Arrays::compare);
        return tried.get(0)[3];
    }

    int beat(int what) {
        List<Integer> heard = now.heard();
        switch (what) {
            case 0: return heard.size();
            case 1: return gaps(heard).size();
            case 2: return uneven(gaps(heard));
            case 3: return evenest();
            case 4: return heard.isEmpty() ? -500 : heard.get(heard.size() - 1);
            default: return -1000;
        }
    }

    int gap(int k) {
        List<Integer> gaps = gaps(now.heard());
        return k < 0 ? -1 : k < gaps.size() ? gaps.get(k) : -5;
    }

    int longest(int k, int what) {
        if (k < 0 || !in(what, 0, 1)) {
            return -1;
        }
        List<int[]> gaps = new ArrayList<>();
        for (int gap : gaps(now.heard())) {
            gaps.add(new int[] {gap, gaps.size()});
        }
        gaps.sort((a, b) -> b[0] - a[0]);
        return k < gaps.size() ? gaps.get(k)[what] : -5;
    }

    private static int row(List<int[]> rows, int[] most, int least, int room, int[] row) {
        if (row[0] == -1) {
            rows.clear();
            return 0;
        }
        if (!in(row[0], 0, most[0]) || !in(row[1], least, most[1])) {
            return -2;
        }
        if (rows.size() == room) {
            return -4;
        }
        rows.add(row);
        return rows.size();
    }

    int see(int n, int angle) {
        return row(now.seen, new int[] {400, 300}, -300, 5, new int[] {n, angle});
    }

    int fits(int what) {
        if (!in(what, 0, 1)) {
            return -1;
        }
        List<Integer> fitting = new ArrayList<>();
        for (int stiff = 1; stiff <= 32; stiff++) {
            State tried = now.with(2, stiff);
            if (now.seen.stream().allMatch(row -> tried.later(row[0]).v[0] == row[1])) {
                fitting.add(stiff);
            }
        }
        return what == 0 ? fitting.size() : fitting.isEmpty() ? -5 : fitting.get(0);
    }

    long odds(int n, int part) {
        if (!in(n, 0, 99)) {
            return NO;
        }
        int likely = 0;
        for (int i = -5; i <= 5; i++) {
            likely += now.with(1, 4 * i).heard().size() >= n ? 1 : 0;
        }
        return part(likely, 11, part);
    }

    long mean(int part) {
        List<Integer> gaps = gaps(now.heard());
        return gaps.isEmpty() ? NO : part(gaps.stream().mapToInt(gap -> gap).sum(), gaps.size(), part);
    }

    int book(int k, int n) {
        return row(now.book, new int[] {99, 400}, 0, 8, new int[] {k, n});
    }

    int looked() {
        List<Integer> heard = now.heard();
        for (int i = 0; i < now.book.size(); i++) {
            int[] row = now.book.get(i);
            if (row[0] >= heard.size() || heard.get(row[0]) != row[1]) {
                return i;
            }
        }
        return -5;
    }

    int judge(int tape, int i) {
        if (!in(tape, 0, 5)) {
            return -1;
        }
        if (tapes[tape] != null && sorts[tape] != 1) {
            return -12;
        }
        List<Integer> heard = now.heard();
        if (heard.isEmpty()) {
            return -5;
        }
        if (tapes[tape] == null || i < 0 || i > tapes[tape].length) {
            return 100;
        }
        long[] row = Arrays.copyOfRange(tapes[tape], i, tapes[tape].length);
        for (int k = 0; k < heard.size(); k++) {
            if (k == row.length) {
                return 100 + k;
            }
            if (row[k] != heard.get(k)) {
                return k;
            }
        }
        return -5;
    }

    int image() {
        kept = now.copy();
        return now.v[9];
    }

    int undo() {
        if (kept == null) {
            return -3;
        }
        now = kept.copy();
        return now.v[9];
    }

    int count(int what) {
        return !in(what, 0, 2) ? -2 : new int[] {now.seen.size(), now.book.size(), text.length()}[what];
    }

    int tape(int tape, int sort, int n) {
        if (!in(tape, 0, 5)) {
            return -1;
        }
        if (!in(sort, -1, 4) || sort != -1 && n > 60) {
            return -2;
        }
        if (sort != -1 && n < 0) {
            return -14;
        }
        tapes[tape] = sort == -1 ? null : new long[n];
        sorts[tape] = sort;
        return 1;
    }

    int item(int tape, int i, long v) {
        if (!in(tape, 0, 5)) {
            return -1;
        }
        if (tapes[tape] == null) {
            return -11;
        }
        if (!in(i, 0, tapes[tape].length - 1)) {
            return -13;
        }
        int free = new int[] {56, 48, 32, 0, 0}[sorts[tape]];
        tapes[tape][i] = sorts[tape] == 4 ? (v == 0 ? 0 : 1) : v << free >> free;
        return 1;
    }

    long peek(int tape, int i) {
        return in(tape, 0, 5) && tapes[tape] != null && in(i, 0, tapes[tape].length - 1) ? tapes[tape][i] : NO;
    }

    int shift(int tape, int i, int other, int j, int n) {
        if (!in(tape, 0, 5) || !in(other, 0, 5)) {
            return -1;
        }
        if (tapes[tape] == null || tapes[other] == null) {
            return -11;
        }
        if (sorts[tape] != sorts[other]) {
            return -12;
        }
        if (n < 0 || i < 0 || j < 0 || (long) i + n > tapes[tape].length || (long) j + n > tapes[other].length) {
            return -13;
        }
        long[] before = tapes[tape].clone();
        for (int at = 0; at < n; at++) {
            tapes[other][j + at] = before[i + at];
        }
        return n;
    }
}
