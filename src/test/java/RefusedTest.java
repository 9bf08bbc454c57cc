import java.util.ArrayList;
import java.util.List;

/**
 * "BAD: a number is none that is told. NO: not as things stand. NONE: there is none. FULL. Of several the first;
 * nothing changes then." For every call each number just beyond what is told and far beyond it, by itself and beside
 * another; and behind each refused call all that later calls show, against an object that was not asked.
 */
public final class RefusedTest extends Bench {
    /** Laid while the calls are tried: each kind of hill and of item, and a night in which much happens. */
    private static final String NET = "h1;h0;h0;h2;h3;h1;v0,1;v0,2;v1,3;v2,3;v1,2;v4,3;v5,2;v5,4;"
        + "r3,2,1;r2,1,2;w1,20;s2,9,12;g1,3,0,12;l5,30,33;";
    private static final String FIRST_KEPT = "h1;h2;v0,1;r1,1,3;w0,9;";
    private static final String SECOND_KEPT = "h0;h2;h3;h1;v0,1;v0,3;v2,1;l0,3,4;";
    private static final String UNLAID = "h1;h3;h2;v0,1;v1,2;w1,5;w0,5;";
    private static final int HEADS = 33, FOLK = 39, HILLS = 6;
    private static final int[] FAR = {LEAST, LEAST + 1, -65536, -257, -256, 256, 65536, GREATEST - 1, GREATEST};

    /** A call that can be refused. */
    private interface Call {
        int on(LyingBeacons x, int[] numbers);
    }

    /** A call's name, and of each of its numbers the least and the greatest told, or the bits that are told. */
    private record Told(String name, int refused, Call call, int[]... numbers) {
    }

    /** How an object is made ready. */
    private interface Ready {
        LyingBeacons make();
    }

    private static final Told[] CALLS = {
        new Told("hill", BAD, (x, n) -> x.hill(n[0], n[1]), range(0, HILLS - 1), range(0, 4)),
        new Told("ship up to 59", BAD, (x, n) -> x.ship(n[0], n[1], 59), bits(HEADS), range(0, 59)),
        new Told("ship from 0 on", BAD, (x, n) -> x.ship(n[0], 0, n[1]), bits(HEADS), range(0, 59)),
        new Told("burns", BAD, (x, n) -> x.burns(n[0], n[1]), range(0, HILLS - 1), range(0, 59)),
        new Told("seen", BAD, (x, n) -> x.seen(n[0]), range(0, 59)),
        new Told("wood", BAD, (x, n) -> x.wood(n[0]), range(0, HILLS - 1)),
        new Told("falseBy", BAD, (x, n) -> x.falseBy(n[0]), bits(FOLK)),
        new Told("falseFor", BAD, (x, n) -> x.falseFor(n[0], n[1]), range(0, 9), range(0, 2)),
        new Told("trueBy", BAD, (x, n) -> x.trueBy(n[0], n[1]), range(0, 0), bits(FOLK & ~1)),
        new Told("trueBy", BAD, (x, n) -> x.trueBy(n[0], n[1]), range(5, 5), bits(FOLK & ~32)),
        new Told("late", BAD, (x, n) -> x.late(n[0], n[1]), range(0, 9), range(0, 1)),
        new Told("bestRule", BAD, (x, n) -> x.bestRule(n[0], n[1]), range(0, 9), range(0, 1)),
        new Told("added", BAD, (x, n) -> x.added(n[0]), range(0, 9)),
        new Told("log", -100, (x, n) -> x.log(n[0], n[1]), range(0, HILLS - 1), range(-1, 60)),
        new Told("logs", BAD, (x, n) -> x.logs(n[0]), range(0, 3)),
        new Told("sign", BAD, (x, n) -> x.sign(n[0], n[1], n[2]), range(0, 5), range(0, 11), range(0, 3)),
        new Told("near sign 5", BAD, (x, n) -> x.near(n[0], 5), range(0, 4)),
        new Told("near sign 0", BAD, (x, n) -> x.near(n[0], 0), range(1, 5)),
        new Told("sign 5 near", BAD, (x, n) -> x.near(5, n[0]), range(0, 4)),
        new Told("sign 0 near", BAD, (x, n) -> x.near(0, n[0]), range(1, 5)),
        new Told("watch", BAD, (x, n) -> x.watch(n[0], n[1], n[2], n[3], n[4]), range(1, 12), range(-1, 12), range(-1, 12),
            range(-1, 12), range(-1, 12)),
        new Told("cost", BAD, (x, n) -> x.cost(n[0], n[1]), range(0, 2), range(0, 1000)),
        new Told("sends", BAD, (x, n) -> x.sends(n[0], n[1]), range(0, 100), range(0, 100)),
        new Told("unbelieved", BAD, (x, n) -> x.unbelieved(n[0], n[1]), range(0, 100), range(0, 100)),
        new Told("count", BAD, (x, n) -> x.count(n[0]), range(0, 7)),
    };

    public static void main(String[] args) {
        theConstantsAreAsTold();
        for (Told told : CALLS) {
            whatIsToldIsAnswered(told);
            oneNumberBeyondIsRefused(told);
            twoNumbersBeyondAreRefused(told);
        }
        nearIsRefused();
        writeIsRefused();
        shipIsRefused();
        layWithAFaultIsRefused();
        whatNeedsAnEarIsRefused();
        keepAndBackAreRefused();
        badComesFirst();
        askingChangesNothing();
        end();
    }

    private static int[] range(int least, int greatest) {
        return new int[] {least, greatest};
    }

    private static int[] bits(int told) {
        return new int[] {told};
    }

    private static LyingBeacons busy() {
        LyingBeacons x = laid(FIRST_KEPT);
        x.ship(1, 7, 7);
        x.log(0, 8);
        x.keep();
        put(x, SECOND_KEPT);
        x.lay();
        x.ship(8, 50, 51);
        x.log(2, 60);
        x.keep();
        put(x, NET);
        x.lay();
        x.ship(1, 4, 9);
        int[] logs = {4, 5, -1, 60, 0, 59};
        for (int h = 0; h < logs.length; h++) {
            x.log(h, logs[h]);
        }
        for (int minute = 0; minute < 12; minute++) {
            x.sign(minute % 6, minute, minute % 3 + 1);
        }
        x.cost(0, 90);
        x.cost(1, 900);
        x.cost(2, 80);
        put(x, UNLAID);
        return x;
    }

    /** Everything that later calls show, within the 512 calls of an object. */
    private static List<String> shown(LyingBeacons x) {
        List<String> all = new ArrayList<>();
        all.add("fault " + x.fault());
        counts(x, all);
        hillsAndNight(x, all);
        borne(x, all);
        for (int what = 0; what <= 3; what++) {
            all.add("logs " + what + ": " + x.logs(what));
        }
        for (int a = 0; a < 6; a++) {
            for (int b = a + 1; b < 6; b++) {
                all.add("near " + a + " " + b + ": " + x.near(a, b));
            }
        }
        all.add("sends " + x.sends(9, 0) + x.sends(8, 0) + " unbelieved " + x.unbelieved(0, 0));
        takeApart(x, all);
        return all;
    }

    private static void counts(LyingBeacons x, List<String> all) {
        for (int what = 0; what <= 7; what++) {
            all.add("count " + what + ": " + x.count(what));
        }
    }

    private static void hillsAndNight(LyingBeacons x, List<String> all) {
        for (int h = 0; h < x.count(0); h++) {
            for (int what = 0; what <= 4; what++) {
                all.add("hill " + h + " " + what + ": " + x.hill(h, what));
            }
            all.add("wood " + h + ": " + x.wood(h));
        }
        for (int minute = 0; minute < 60; minute++) {
            all.add("seen " + minute + ": " + x.seen(minute));
        }
        all.add("alarm " + x.alarm());
    }

    private static void borne(LyingBeacons x, List<String> all) {
        for (int b = 0; b <= 4; b++) {
            for (int what = 0; what <= 2; what++) {
                all.add("falseFor " + b + " " + what + ": " + x.falseFor(b, what));
            }
        }
        for (int head = 0; head < HILLS; head++) {
            all.add("trueBy " + head + ": " + x.trueBy(head, 0));
        }
        all.add("late " + x.late(0, 0) + " " + x.late(1, 0) + " " + x.late(0, 1));
        all.add("bears " + x.bears() + " added " + x.added(0));
        all.add("bestRule " + x.bestRule(0, 0) + " " + x.bestRule(0, 1));
    }

    /** What can only be seen by changing it. */
    private static void takeApart(LyingBeacons x, List<String> all) {
        for (int sign = 0; sign < 6; sign++) {
            for (int minute = 0; minute < 12; minute++) {
                all.add("sign " + sign + " " + minute + ": " + x.sign(sign, minute, 0));
            }
        }
        for (int what = 0; what <= 2; what++) {
            all.add("cost " + what + ": " + x.cost(what, 0));
        }
        for (int time = 0; time < 3; time++) {
            all.add("night " + x.seen(5) + " " + x.seen(8) + " " + x.seen(31) + " " + x.seen(52) + " alarm " + x.alarm());
            for (int h = 0; h < HILLS; h++) {
                all.add("hill " + h + ": " + x.hill(h, 0) + " " + x.hill(h, 1) + " log " + x.log(h, -1));
            }
            all.add("back " + x.back());
        }
        all.add("fault " + x.fault() + " lay " + x.lay() + " wipe " + x.wipe());
    }

    private static void same(String what, List<String> got, List<String> want) {
        due(what + " changed how much is shown", got.size(), want.size());
        for (int i = 0; i < Math.min(got.size(), want.size()); i++) {
            due(what + " changed " + want.get(i) + " to " + got.get(i), got.get(i).equals(want.get(i)));
        }
    }

    /** The call answers this, and later calls show the same as if it had not been. */
    private static void refused(String what, Ready ready, List<String> want, Call call, int answer, int... numbers) {
        LyingBeacons x = ready.make();
        due(what, call.on(x, numbers), answer);
        same(what, shown(x), want);
    }

    private static final List<String> BUSY = shown(busy());

    private static List<Integer> beyond(int[] told) {
        List<Integer> all = new ArrayList<>();
        if (told.length == 2) {
            all.addAll(List.of(told[0] - 1, told[1] + 1, told[0] + 32, told[1] + 64, told[0] - 64));
            all.removeIf(one -> one >= told[0] && one <= told[1]);
            for (int far : FAR) {
                if (far < told[0] || far > told[1]) {
                    all.add(far);
                }
            }
            return all;
        }
        for (int bit = 0; bit < 32; bit++) {
            if ((told[0] & 1 << bit) == 0) {
                all.add(1 << bit);
                all.add(told[0] | 1 << bit);
            }
        }
        all.addAll(List.of(-1, LEAST + 1, GREATEST));
        return all;
    }

    private static int[] least(Told told) {
        int[] numbers = new int[told.numbers.length];
        for (int i = 0; i < numbers.length; i++) {
            numbers[i] = told.numbers[i].length == 2 ? told.numbers[i][0] : 0;
        }
        return numbers;
    }

    private static int[] greatest(Told told) {
        int[] numbers = new int[told.numbers.length];
        for (int i = 0; i < numbers.length; i++) {
            numbers[i] = told.numbers[i][told.numbers[i].length - 1];
        }
        return numbers;
    }

    private static String named(Told told, int[] numbers) {
        return told.name + java.util.Arrays.toString(numbers);
    }

    /** Both ends of each range: none of them is refused. */
    private static void whatIsToldIsAnswered(Told told) {
        for (int[] base : new int[][] {least(told), greatest(told)}) {
            due(named(told, base) + " is refused", told.call.on(busy(), base) != told.refused);
        }
        for (int i = 0; i < told.numbers.length; i++) {
            int[] numbers = least(told);
            numbers[i] = greatest(told)[i];
            due(named(told, numbers) + " is refused", told.call.on(busy(), numbers) != told.refused);
        }
    }

    private static void oneNumberBeyondIsRefused(Told told) {
        for (int i = 0; i < told.numbers.length; i++) {
            for (int one : beyond(told.numbers[i])) {
                int[] numbers = least(told);
                numbers[i] = one;
                refused(named(told, numbers), RefusedTest::busy, BUSY, told.call, told.refused, numbers);
                numbers = greatest(told);
                numbers[i] = one;
                due(named(told, numbers), told.call.on(busy(), numbers), told.refused);
            }
        }
    }

    /** Two reasons at once, the same answer. */
    private static void twoNumbersBeyondAreRefused(Told told) {
        for (int i = 0; i < told.numbers.length; i++) {
            for (int j = i + 1; j < told.numbers.length; j++) {
                for (int k = 0; k < 2; k++) {
                    int[] numbers = least(told);
                    numbers[i] = beyond(told.numbers[i]).get(k);
                    numbers[j] = beyond(told.numbers[j]).get(1 - k);
                    refused(named(told, numbers), RefusedTest::busy, BUSY, told.call, told.refused, numbers);
                }
            }
        }
    }

    private static void theConstantsAreAsTold() {
        due("BAD", LyingBeacons.BAD, -1);
        due("NO", LyingBeacons.NO, -2);
        due("FULL", LyingBeacons.FULL, -3);
        due("NONE", LyingBeacons.NONE, -4);
    }

    /** "BAD (alike numbers, too)", and both beyond what is told. */
    private static void nearIsRefused() {
        for (int sign = -1; sign <= 6; sign++) {
            refused("near of alike " + sign, RefusedTest::busy, BUSY, (x, n) -> x.near(n[0], n[0]), BAD, sign);
        }
        refused("near(-1, 6)", RefusedTest::busy, BUSY, (x, n) -> x.near(-1, 6), BAD);
        refused("near(6, -1)", RefusedTest::busy, BUSY, (x, n) -> x.near(6, -1), BAD);
    }

    private static LyingBeacons full() {
        LyingBeacons x = busy();
        put(x, "h0;" + "s0,10,10;".repeat(33));
        return x;
    }

    private static LyingBeacons almostFull() {
        LyingBeacons x = busy();
        put(x, "h1;" + "s0,0,10;".repeat(37));
        return x;
    }

    private static void writeIsRefused() {
        List<String> full = shown(full());
        List<String> almost = shown(almostFull());
        for (long v : new long[] {0, -1, Long.MIN_VALUE, Long.MAX_VALUE, bytes(";;;;;;;;", 0, 8)}) {
            for (int n : new int[] {LEAST, -8, -1, 0, 9, 64, 257, GREATEST}) {
                refused("write(" + n + ", " + v + ")", RefusedTest::busy, BUSY, (x, none) -> x.write(n, v), BAD);
                refused("write(" + n + ", " + v + ") to a full text", RefusedTest::full, full, (x, none) -> x.write(n, v), BAD);
            }
            for (int n = 1; n <= 8; n++) {
                int size = n;
                refused("write(" + n + ") to a full text", RefusedTest::full, full, (x, none) -> x.write(size, v), FULL);
                if (n > 1) {
                    refused("write(" + n + ") behind 299", RefusedTest::almostFull, almost, (x, none) -> x.write(size, v), FULL);
                }
            }
        }
    }

    /** "BAD (others than HEADS, too)", and minutes that are none together. */
    private static void shipIsRefused() {
        for (int heads = 0; heads < 128; heads++) {
            if ((heads & ~HEADS) != 0) {
                refused("ship " + heads, RefusedTest::busy, BUSY, (x, n) -> x.ship(n[0], 0, 59), BAD, heads);
            }
        }
        for (int a = 1; a <= 59; a += 29) {
            refused("ship from " + a + " to " + (a - 1), RefusedTest::busy, BUSY, (x, n) -> x.ship(1, n[0], n[0] - 1), BAD, a);
            refused("no ship from " + a + " to 0", RefusedTest::busy, BUSY, (x, n) -> x.ship(0, n[0], 0), BAD, a);
        }
        for (int minute : new int[] {LEAST, -1, 60, GREATEST}) {
            refused("ship in minute " + minute, RefusedTest::busy, BUSY, (x, n) -> x.ship(1, n[0], n[0]), BAD, minute);
        }
        refused("ship from -1 to 60", RefusedTest::busy, BUSY, (x, n) -> x.ship(2, -1, 60), BAD);
    }

    private static void layWithAFaultIsRefused() {
        for (String text : new String[] {"x", "h0", "h1;h1;h1;h4;", "h0;h0;h0;v0,1;r0,2,2;w0,3;s0,1,1;l1,0,9;l2,0,60;"}) {
            Ready ready = () -> {
                LyingBeacons x = busy();
                put(x, text);
                return x;
            };
            refused("lay of " + text, ready, shown(ready.make()), (x, none) -> x.lay(), NO);
        }
    }

    private static LyingBeacons busyWithoutEar() {
        LyingBeacons x = busy();
        put(x, "h1;h0;h3;v0,1;v1,2;w1,3;");
        x.lay();
        x.ship(1, 3, 4);
        x.log(0, 3);
        x.log(1, 3);
        return x;
    }

    private static void whatNeedsAnEarIsRefused() {
        List<String> want = shown(busyWithoutEar());
        Call[] calls = {
            (x, n) -> x.alarm(), (x, n) -> x.falseBy(0), (x, n) -> x.falseBy(3), (x, n) -> x.falseFor(0, 0),
            (x, n) -> x.falseFor(9, 1), (x, n) -> x.falseFor(1, 2), (x, n) -> x.trueBy(0, 0), (x, n) -> x.trueBy(0, 2),
            (x, n) -> x.late(0, 0), (x, n) -> x.late(9, 1), (x, n) -> x.bears(), (x, n) -> x.bestRule(0, 0),
            (x, n) -> x.bestRule(9, 1), (x, n) -> x.added(0), (x, n) -> x.added(9),
        };
        for (int i = 0; i < calls.length; i++) {
            refused("without ear, call " + i, RefusedTest::busyWithoutEar, want, calls[i], NO);
        }
    }

    private static LyingBeacons nothingKept() {
        LyingBeacons x = laid(NET);
        x.ship(32, 4, 9);
        x.log(2, 5);
        x.sign(3, 3, 3);
        x.cost(1, 7);
        put(x, UNLAID);
        return x;
    }

    private static void keepAndBackAreRefused() {
        refused("keep of a third", RefusedTest::busy, BUSY, (x, none) -> x.keep(), FULL);
        refused("back to nothing", RefusedTest::nothingKept, shown(nothingKept()), (x, none) -> x.back(), NO);
    }

    /** "Of several the first": BAD ahead of NO ahead of NONE ahead of FULL. */
    private static void badComesFirst() {
        List<String> want = shown(busyWithoutEar());
        Call[] calls = {
            (x, n) -> x.falseBy(4), (x, n) -> x.falseBy(8), (x, n) -> x.falseBy(LEAST), (x, n) -> x.falseFor(10, 0),
            (x, n) -> x.falseFor(-1, 1), (x, n) -> x.falseFor(0, 3), (x, n) -> x.falseFor(0, -1), (x, n) -> x.trueBy(1, 0),
            (x, n) -> x.trueBy(3, 0), (x, n) -> x.trueBy(0, 1), (x, n) -> x.trueBy(0, 4), (x, n) -> x.trueBy(0, LEAST),
            (x, n) -> x.late(10, 0), (x, n) -> x.late(-1, 0), (x, n) -> x.late(0, 2), (x, n) -> x.late(0, -1),
            (x, n) -> x.bestRule(10, 0), (x, n) -> x.bestRule(-1, 0), (x, n) -> x.bestRule(0, 2), (x, n) -> x.bestRule(0, -1),
            (x, n) -> x.added(10), (x, n) -> x.added(-1),
        };
        for (int i = 0; i < calls.length; i++) {
            refused("BAD ahead of NO, call " + i, RefusedTest::busyWithoutEar, want, calls[i], BAD);
        }
    }

    /** Calls that only tell leave everything as it is, also where they look at other rules, sights and hills. */
    private static void askingChangesNothing() {
        Call[] calls = {
            (x, n) -> x.fault(), (x, n) -> x.late(1, 1), (x, n) -> x.late(9, 1), (x, n) -> x.bestRule(0, 0),
            (x, n) -> x.bestRule(9, 1), (x, n) -> x.added(0), (x, n) -> x.added(9), (x, n) -> x.bears(),
            (x, n) -> x.falseFor(2, 2), (x, n) -> x.trueBy(5, 3), (x, n) -> x.logs(3), (x, n) -> x.logs(2),
            (x, n) -> x.watch(12, 1, 2, 3, 4), (x, n) -> x.unbelieved(0, 0), (x, n) -> x.near(0, 5), (x, n) -> x.alarm(),
        };
        for (int i = 0; i < calls.length; i++) {
            LyingBeacons x = busy();
            calls[i].on(x, new int[0]);
            same("asking, call " + i, shown(x), BUSY);
        }
    }
}
