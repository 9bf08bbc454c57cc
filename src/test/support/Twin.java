import java.util.Map;
import java.util.TreeMap;

/**
 * The class and its second telling side by side: each call is made on both, and both must answer alike.
 * The document speaks of 512 calls on an object: {@code left} tells how many there are still.
 */
final class Twin {
    static final int MOST_CALLS = 512;
    /** Of each call how often it was made in all runs, and how often it was told (no BAD, NO, FULL, NONE). */
    static final Map<String, int[]> TRIED = new TreeMap<>();
    final Model y = new Model();
    private final LyingBeacons x = new LyingBeacons();
    private final String run;
    private int calls = 0;

    Twin(String name) {
        run = name;
    }

    int left() {
        return MOST_CALLS - calls;
    }

    private int same(int got, int want, String name, long... numbers) {
        calls++;
        int[] tried = TRIED.computeIfAbsent(name, none -> new int[2]);
        tried[0]++;
        tried[1] += want >= 0 ? 1 : 0;
        Bench.due(got == want ? name : told(name, numbers), got, want);
        if (calls > MOST_CALLS) {
            Bench.due(run + ": calls beyond the last that is promised", calls, MOST_CALLS);
        }
        return got;
    }

    private String told(String name, long... numbers) {
        StringBuilder call = new StringBuilder(run + ", call " + calls + ": " + name + "(");
        for (int i = 0; i < numbers.length; i++) {
            call.append(i == 0 ? "" : ", ").append(numbers[i]);
        }
        return call + ") on " + y.text;
    }

    /** Behind what is written already, eight bytes a call. */
    void add(String text) {
        for (int at = 0; at < text.length(); at += 8) {
            int n = Math.min(8, text.length() - at);
            write(n, Bench.bytes(text, at, n));
        }
    }

    void put(String text) {
        wipe();
        add(text);
    }

    int write(int n, long v) {
        return same(x.write(n, v), y.write(n, v), "write", n, v);
    }

    int wipe() {
        return same(x.wipe(), y.wipe(), "wipe");
    }

    int fault() {
        return same(x.fault(), y.fault(), "fault");
    }

    int lay() {
        return same(x.lay(), y.lay(), "lay");
    }

    int hill(int hill, int what) {
        return same(x.hill(hill, what), y.hill(hill, what), "hill", hill, what);
    }

    int ship(int heads, int a, int b) {
        return same(x.ship(heads, a, b), y.ship(heads, a, b), "ship", heads, a, b);
    }

    int burns(int hill, int minute) {
        return same(x.burns(hill, minute), y.burns(hill, minute), "burns", hill, minute);
    }

    int seen(int minute) {
        return same(x.seen(minute), y.seen(minute), "seen", minute);
    }

    int wood(int hill) {
        return same(x.wood(hill), y.wood(hill), "wood", hill);
    }

    int alarm() {
        return same(x.alarm(), y.alarm(), "alarm");
    }

    int falseBy(int liars) {
        return same(x.falseBy(liars), y.falseBy(liars), "falseBy", liars);
    }

    int falseFor(int b, int what) {
        return same(x.falseFor(b, what), y.falseFor(b, what), "falseFor", b, what);
    }

    int trueBy(int head, int silent) {
        return same(x.trueBy(head, silent), y.trueBy(head, silent), "trueBy", head, silent);
    }

    int late(int b, int q) {
        return same(x.late(b, q), y.late(b, q), "late", b, q);
    }

    int bears() {
        return same(x.bears(), y.bears(), "bears");
    }

    int bestRule(int b, int what) {
        return same(x.bestRule(b, what), y.bestRule(b, what), "bestRule", b, what);
    }

    int added(int b) {
        return same(x.added(b), y.added(b), "added", b);
    }

    int log(int hill, int minute) {
        return same(x.log(hill, minute), y.log(hill, minute), "log", hill, minute);
    }

    int logs(int what) {
        return same(x.logs(what), y.logs(what), "logs", what);
    }

    int sign(int sign, int minute, int fires) {
        return same(x.sign(sign, minute, fires), y.sign(sign, minute, fires), "sign", sign, minute, fires);
    }

    int near(int a, int b) {
        return same(x.near(a, b), y.near(a, b), "near", a, b);
    }

    int watch(int t, int a, int b, int c, int d) {
        return same(x.watch(t, a, b, c, d), y.watch(t, a, b, c, d), "watch", t, a, b, c, d);
    }

    int cost(int what, int v) {
        return same(x.cost(what, v), y.cost(what, v), "cost", what, v);
    }

    int sends(int f, int t) {
        return same(x.sends(f, t), y.sends(f, t), "sends", f, t);
    }

    int unbelieved(int f, int t) {
        return same(x.unbelieved(f, t), y.unbelieved(f, t), "unbelieved", f, t);
    }

    int keep() {
        return same(x.keep(), y.keep(), "keep");
    }

    int back() {
        return same(x.back(), y.back(), "back");
    }

    int count(int what) {
        return same(x.count(what), y.count(what), "count", what);
    }
}
