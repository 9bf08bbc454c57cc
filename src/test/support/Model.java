import java.util.ArrayList;
import java.util.List;
import java.util.TreeSet;
import java.util.regex.Matcher;
import java.util.regex.Pattern;

/**
 * A second telling of the document, written another way than the class: regular expressions, sets,
 * every set of liars looked at, no shortcut.
 */
final class Model {
    private static final int BAD = -1, NO = -2, FULL = -3, NONE = -4;

    String text = "";
    Laid l = new Laid();
    List<Laid> kept = new ArrayList<>();
    int[][] signs = new int[6][12];
    int[] costs = {100, 1000, 100};

    int write(int n, long v) {
        if (n < 1 || n > 8) {
            return BAD;
        }
        if (text.length() + n > 300) {
            return FULL;
        }
        for (int i = 8 - n; i < 8; i++) {
            text += (char) (v << (8 * i) >>> 56);
        }
        return text.length();
    }

    int wipe() {
        int was = text.length();
        text = "";
        return was;
    }

    int fault() {
        return faultOf(text);
    }

    static int faultOf(String text) {
        return parse(text, new Laid());
    }

    int lay() {
        Laid next = new Laid();
        if (parse(text, next) != NONE) {
            return NO;
        }
        l = next;
        return l.n();
    }

    boolean is(int h) {
        return h >= 0 && h < l.n();
    }

    int hill(int h, int what) {
        if (!is(h) || what < 0 || what > 4) {
            return BAD;
        }
        int sees = 0;
        for (int o = 0; o < l.n(); o++) {
            sees |= l.sees(h, o) ? 1 << o : 0;
        }
        return new int[] {l.kind(h), sees, l.k[h], l.m[h], l.wood[h]}[what];
    }

    int ship(int heads, int a, int b) {
        if ((heads & ~l.bitsOf(1)) != 0 || a < 0 || b > 59 || a > b) {
            return BAD;
        }
        l.shipHeads = heads;
        l.shipA = a;
        l.shipB = b;
        return 0;
    }

    int burns(int h, int t) {
        return !is(h) || t < 0 || t > 59 ? BAD : new Night(l).burnt[h][t] ? 1 : 0;
    }

    int seen(int t) {
        if (t < 0 || t > 59) {
            return BAD;
        }
        Night night = new Night(l);
        int bits = 0;
        for (int h = 0; h < l.n(); h++) {
            bits |= night.burnt[h][t] ? 1 << h : 0;
        }
        return bits;
    }

    int wood(int h) {
        return is(h) ? new Night(l).left[h] : BAD;
    }

    int alarm() {
        return l.ear() < 0 ? NO : new Night(l).alarm;
    }

    int falseBy(int liars) {
        Plan p = new Plan(l);
        return (liars & ~p.folk()) != 0 ? BAD : l.ear() < 0 ? NO : p.isFalse(liars) ? 1 : 0;
    }

    int falseFor(int b, int what) {
        if (b < 0 || b > 9 || what < 0 || what > 2) {
            return BAD;
        }
        if (l.ear() < 0) {
            return NO;
        }
        Plan p = new Plan(l);
        TreeSet<Integer> sets = new TreeSet<>();
        for (int s = 0; s < 1024; s++) {
            if ((s & ~p.folk()) == 0 && Integer.bitCount(s) == b && p.isFalse(s)) {
                sets.add(s);
            }
        }
        if (what == 0) {
            return sets.size();
        }
        return sets.isEmpty() ? NONE : what == 1 ? sets.first() : p.ring(sets.first());
    }

    int trueBy(int head, int silent) {
        Plan p = new Plan(l);
        if (!is(head) || l.kind(head) != 1 || (silent & ~(p.folk() & ~(1 << head))) != 0) {
            return BAD;
        }
        return l.ear() < 0 ? NO : p.minute(head, silent);
    }

    int late(int b, int q) {
        return b < 0 || b > 9 || q < 0 || q > 1 ? BAD : l.ear() < 0 ? NO : new Plan(l).late(b, q);
    }

    int bears() {
        return l.ear() < 0 ? NO : new Plan(l).bears();
    }

    int bestRule(int b, int what) {
        if (b < 0 || b > 9 || what < 0 || what > 1) {
            return BAD;
        }
        if (l.ear() < 0) {
            return NO;
        }
        int[] best = {NONE, NONE};
        Plan p = new Plan(l);
        for (p.k = 1; p.k <= 4; p.k++) {
            for (p.m = 1; p.m <= 3; p.m++) {
                if (p.borne(b) && (best[1] == NONE || p.late(b, 0) < best[1])) {
                    best = new int[] {10 * p.k + p.m, p.late(b, 0)};
                }
            }
        }
        return best[what];
    }

    int added(int b) {
        if (b < 0 || b > 9) {
            return BAD;
        }
        if (l.ear() < 0) {
            return NO;
        }
        int best = NONE;
        for (int s = 0; s < 1024; s++) {
            if ((s & ~l.bitsOf(3)) == 0 && (best == NONE || Integer.bitCount(s) < Integer.bitCount(best))) {
                Plan p = new Plan(l);
                p.extra = s;
                best = p.bears() >= b ? s : best;
            }
        }
        return best;
    }

    int log(int h, int t) {
        if (!is(h) || t < -1 || t > 60) {
            return -100;
        }
        int was = l.log[h];
        l.log[h] = t;
        return was;
    }

    /** 0 sure, 1 may be, 2 cleared, -1 not in question. */
    int judged(int h) {
        int t = l.log[h];
        if (l.kind(h) != 0 || t < 0 || t > 59) {
            return -1;
        }
        int yes = 0;
        int open = 0;
        for (int o = 0; o < l.n(); o++) {
            if (l.sees(h, o) && l.kind(o) < 2 && t - l.m[h] >= 0) {
                open += l.log[o] == -1 ? 1 : 0;
                yes += l.log[o] >= 0 && l.log[o] <= t - l.m[h] ? 1 : 0;
            }
        }
        return yes >= l.k[h] ? 2 : yes + open >= l.k[h] ? 1 : 0;
    }

    int logs(int what) {
        if (what < 0 || what > 3) {
            return BAD;
        }
        int bits = 0;
        int asked = NONE;
        int most = 1;
        int e = 60;
        for (int h = l.n() - 1; h >= 0; h--) {
            bits |= judged(h) == what ? 1 << h : 0;
            int by = 0;
            for (int o = 0; o < l.n(); o++) {
                by += l.sees(h, o) && judged(o) == 1 ? 1 : 0;
            }
            if (l.kind(h) < 2 && l.log[h] == -1 && by >= most) {
                asked = h;
                most = by;
            }
            e = l.kind(h) == 1 && l.log[h] >= 0 ? Math.min(e, l.log[h]) : e;
        }
        if (what < 2) {
            return bits;
        }
        if (what == 2) {
            return asked;
        }
        int[] from = new Plan(l).froms(l.bitsOf(1), 1, 0);
        int soon = 0;
        for (int h = 0; h < l.n() && e < 60; h++) {
            boolean early = l.log[h] < from[h] + e - 1;
            soon |= l.kind(h) == 0 && l.log[h] >= 0 && l.log[h] < 60 && early ? 1 << h : 0;
        }
        return soon;
    }

    int sign(int s, int t, int fires) {
        if (s < 0 || s > 5 || t < 0 || t > 11 || fires < 0 || fires > 3) {
            return BAD;
        }
        int was = signs[s][t];
        signs[s][t] = fires;
        return was;
    }

    int near(int a, int b) {
        if (a < 0 || a > 5 || b < 0 || b > 5 || a == b) {
            return BAD;
        }
        int fewest = 99;
        for (int d = -3; d <= 3; d++) {
            int[] one = new int[20];
            int[] other = new int[20];
            System.arraycopy(signs[a], 0, one, 4, 12);
            System.arraycopy(signs[b], 0, other, 4 + d, 12);
            int taken = 0;
            for (int i = 0; i < 20; i++) {
                taken += one[i] == other[i] ? 0 : one[i] == 0 || other[i] == 0 ? 1 : 2;
            }
            fewest = Math.min(fewest, taken);
        }
        return fewest;
    }

    int watch(int t, int a, int b, int c, int d) {
        int[] men = {a, b, c, d};
        boolean bad = t < 1 || t > 12;
        for (int man : men) {
            bad |= man < -1 || man > 12;
        }
        if (bad) {
            return BAD;
        }
        int watched = 0;
        int last = -1;
        for (int hour = 0; hour < t; hour++) {
            int best = -1;
            for (int man = 3; man >= 0; man--) {
                if (man != last && men[man] > 0 && (best < 0 || men[man] >= men[best])) {
                    best = man;
                }
            }
            last = best;
            if (best >= 0) {
                men[best]--;
                watched++;
            }
        }
        return watched;
    }

    int cost(int what, int v) {
        if (what < 0 || what > 2 || v < 0 || v > 1000) {
            return BAD;
        }
        int was = costs[what];
        costs[what] = v;
        return was;
    }

    int sends(int f, int t) {
        if (f < 0 || f > 100 || t < 0 || t > 100) {
            return BAD;
        }
        return (f + 1) * costs[0] + (t + 1) * costs[2] <= (t + 1) * costs[1] ? 1 : 0;
    }

    int unbelieved(int f, int t) {
        if (f < 0 || f > 100 || t < 0 || t > 100) {
            return BAD;
        }
        int room = (t + 1) * (costs[1] - costs[2]);
        if (costs[0] == 0) {
            return room < 0 ? 0 : NONE;
        }
        int more = Math.max(0, Math.floorDiv(room, costs[0]) - f);
        return more > 1000 ? NONE : more;
    }

    int keep() {
        if (kept.size() == 2) {
            return FULL;
        }
        kept.add(l.copy());
        return kept.size();
    }

    int back() {
        if (kept.isEmpty()) {
            return NO;
        }
        l = kept.remove(kept.size() - 1);
        return kept.size();
    }

    int count(int what) {
        int liars = 0;
        int written = 0;
        for (int h = 0; h < 10; h++) {
            liars += l.liar[h] ? 1 : 0;
            written += l.log[h] != -1 ? 1 : 0;
        }
        int[] all = {l.n(), l.sights.size(), Integer.bitCount(l.bitsOf(1)), Integer.bitCount(l.bitsOf(3)),
            liars, text.length(), written, kept.size()};
        return what < 0 || what > 7 ? BAD : all[what];
    }

    /** What is laid, with its ship and logs. */
    static final class Laid implements Cloneable {
        List<Integer> kinds = new ArrayList<>();
        TreeSet<Integer> sights = new TreeSet<>();
        int[] k = new int[10], m = new int[10], wood = new int[10], log = new int[10];
        boolean[][] asleep = new boolean[10][60], lies = new boolean[10][60];
        boolean[] liar = new boolean[10], ruled = new boolean[10], stocked = new boolean[10];
        boolean[][][] mist = new boolean[10][10][60];
        int shipHeads = 0, shipA = 0, shipB = 0;

        Laid() {
            for (int h = 0; h < 10; h++) {
                k[h] = 1;
                m[h] = 1;
                wood[h] = 99;
                log[h] = -1;
            }
        }

        /** Rules, sleep and the like never change once laid: only logs and the ship need a copy. */
        Laid copy() {
            try {
                Laid c = (Laid) clone();
                c.log = log.clone();
                return c;
            } catch (CloneNotSupportedException e) {
                throw new IllegalStateException(e);
            }
        }

        int n() {
            return kinds.size();
        }

        boolean sees(int a, int b) {
            return sights.contains(Math.min(a, b) * 10 + Math.max(a, b));
        }

        int kind(int h) {
            return kinds.get(h);
        }

        int ear() {
            return kinds.indexOf(2);
        }

        int bitsOf(int kind) {
            int bits = 0;
            for (int h = 0; h < n(); h++) {
                bits += kind(h) == kind ? 1 << h : 0;
            }
            return bits;
        }
    }

    private static final Pattern ITEM = Pattern.compile("([a-z])([0-9]{1,2})(?:,([0-9]{1,2}))?(?:,([0-9]{1,2}))?(?:,([0-9]{1,2}))?;");

    /** The fault, or NONE and the laid one filled. */
    private static int parse(String text, Laid to) {
        int at = 0;
        boolean others = false;
        while (at < text.length()) {
            Matcher item = ITEM.matcher(text);
            item.region(at, text.length());
            if (!item.lookingAt()) {
                return at;
            }
            List<Integer> v = new ArrayList<>();
            for (int g = 2; g <= 5 && item.group(g) != null; g++) {
                v.add(Integer.parseInt(item.group(g)));
            }
            char letter = item.group(1).charAt(0);
            if (letter == 'h' && others || !take(letter, v, to)) {
                return at;
            }
            others |= letter != 'h';
            at = item.end();
        }
        return NONE;
    }

    private static boolean take(char letter, List<Integer> v, Laid to) {
        int size = "h".indexOf(letter) >= 0 ? 1 : "vw".indexOf(letter) >= 0 ? 2 : "rsl".indexOf(letter) >= 0 ? 3 : letter == 'g' ? 4 : -1;
        if (v.size() != size) {
            return false;
        }
        int a = v.get(0);
        if (letter == 'h') {
            if (a > 3 || to.n() == 10 || a == 2 && to.kinds.contains(2)) {
                return false;
            }
            to.kinds.add(a);
            return true;
        }
        if (a >= to.n()) {
            return false;
        }
        int b = v.get(1);
        if (letter == 'v') {
            return b < to.n() && a != b && to.sights.add(Math.min(a, b) * 10 + Math.max(a, b));
        }
        if (letter == 'w') {
            boolean fresh = !to.stocked[a];
            to.stocked[a] = true;
            to.wood[a] = b;
            return fresh;
        }
        if (letter == 'r') {
            int c = v.get(2);
            if (to.ruled[a] || b < 1 || b > 9 || c < 1 || c > 9) {
                return false;
            }
            to.ruled[a] = true;
            to.k[a] = b;
            to.m[a] = c;
            return true;
        }
        int from = v.get(size - 2);
        int till = v.get(size - 1);
        if (from > till || till > 59) {
            return false;
        }
        if (letter == 'g' && (b >= to.n() || a == b || !to.sees(a, b))) {
            return false;
        }
        if (letter == 'l' && to.kind(a) >= 2) {
            return false;
        }
        for (int t = from; t <= till; t++) {
            if (letter == 's') {
                to.asleep[a][t] = true;
            } else if (letter == 'l') {
                to.lies[a][t] = true;
                to.liar[a] = true;
            } else {
                to.mist[a][b][t] = true;
                to.mist[b][a][t] = true;
            }
        }
        return true;
    }

    /** A night played whole. */
    private static final class Night {
        final boolean[][] burnt = new boolean[10][60];
        final int[] left;
        int alarm = NONE;
        private final Laid l;

        Night(Laid laid) {
            l = laid;
            left = l.wood.clone();
            for (int t = 0; t < 60; t++) {
                for (int h = 0; h < l.n(); h++) {
                    if (left[h] > 0 && wants(h, t)) {
                        burnt[h][t] = true;
                        left[h]--;
                    }
                }
            }
            if (l.ear() >= 0) {
                for (int t = 59; t >= 0; t--) {
                    if (!l.asleep[l.ear()][t] && held(l.ear(), t)) {
                        alarm = t;
                    }
                }
            }
        }

        private boolean wants(int h, int t) {
            if (l.liar[h]) {
                return l.lies[h][t];
            }
            if (t == 0 || l.kind(h) >= 2 || l.asleep[h][t]) {
                return false;
            }
            boolean ship = (l.shipHeads & 1 << h) != 0 && l.shipA <= t - 1 && t - 1 <= l.shipB;
            return burnt[h][t - 1] || ship || held(h, t - 1);
        }

        private boolean held(int h, int t) {
            int hills = 0;
            for (int o = 0; o < l.n(); o++) {
                boolean all = l.sees(h, o);
                for (int i = 0; i < l.m[h]; i++) {
                    all = all && t - i >= 0 && burnt[o][t - i] && !l.mist[h][o][t - i];
                }
                hills += all ? 1 : 0;
            }
            return hills >= l.k[h];
        }
    }

    /** A net of part 2: who is manned, which sight is gone, which rules. */
    private static final class Plan {
        final Laid l;
        int extra = 0;
        int gone = -1;
        int k = 0, m = 0;

        Plan(Laid laid) {
            l = laid;
        }

        int folk() {
            return l.bitsOf(0) | l.bitsOf(1) | extra;
        }

        int k(int h) {
            return k > 0 ? k : l.k[h];
        }

        int m(int h) {
            return m > 0 ? m : l.m[h];
        }

        boolean sees(int a, int b) {
            return l.sees(a, b) && Math.min(a, b) * 10 + Math.max(a, b) != gone;
        }

        /** Minutes from which hills burn, by relaxing until nothing moves; 9999 never. */
        int[] froms(int starters, int start, int silent) {
            int[] from = new int[10];
            for (int h = 0; h < 10; h++) {
                from[h] = (starters & 1 << h) != 0 ? start : 9999;
            }
            for (int round = 0; round < 30; round++) {
                for (int h = 0; h < l.n(); h++) {
                    if ((folk() & ~silent & ~starters & 1 << h) != 0) {
                        from[h] = Math.min(from[h], heldUpTo(h, from) + 1);
                    }
                }
            }
            return from;
        }

        int heldUpTo(int h, int[] from) {
            List<Integer> seen = new ArrayList<>();
            for (int o = 0; o < l.n(); o++) {
                if (sees(h, o) && from[o] < 9999) {
                    seen.add(from[o]);
                }
            }
            seen.sort(null);
            return seen.size() < k(h) ? 9998 : seen.get(k(h) - 1) + m(h) - 1;
        }

        int minute(int head, int silent) {
            int t = heldUpTo(l.ear(), froms(1 << head, 1, silent));
            return t >= 9000 ? NONE : t;
        }

        boolean isFalse(int liars) {
            return heldUpTo(l.ear(), froms(liars, 0, 0)) < 9000;
        }

        int ring(int liars) {
            int[] from = froms(liars, 0, 0);
            int bits = 0;
            for (int h = 0; h < l.n(); h++) {
                bits |= from[h] < 9999 ? 1 << h : 0;
            }
            return bits;
        }

        int late(int b, int q) {
            TreeSet<Integer> goneOnes = new TreeSet<>();
            if (q == 1) {
                goneOnes.addAll(l.sights);
            }
            if (goneOnes.isEmpty()) {
                goneOnes.add(-1);
            }
            int worst = NONE;
            for (int one : goneOnes) {
                gone = one;
                for (int h = 0; h < l.n(); h++) {
                    if (l.kind(h) == 1) {
                        int others = folk() & ~(1 << h);
                        for (int s = 0; s < 1024; s++) {
                            if ((s & ~others) == 0 && Integer.bitCount(s) == Math.min(b, Integer.bitCount(others))) {
                                int t = minute(h, s);
                                if (t == NONE) {
                                    gone = -1;
                                    return NONE;
                                }
                                worst = Math.max(worst, t);
                            }
                        }
                    }
                }
            }
            gone = -1;
            return worst;
        }

        boolean borne(int b) {
            for (int s = 0; s < 1024; s++) {
                if ((s & ~folk()) == 0 && Integer.bitCount(s) <= b && isFalse(s)) {
                    return false;
                }
            }
            return late(b, 0) != NONE;
        }

        int bears() {
            int most = NONE;
            for (int b = 0; b <= 9; b++) {
                most = borne(b) ? b : most;
            }
            return most;
        }
    }
}
