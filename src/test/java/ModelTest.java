import java.util.Random;

/**
 * Runs of 512 calls by a fixed seed, on the class and on a second telling of the document: the calls of
 * all promises follow one another, over texts that are written, wiped and written anew.
 */
public final class ModelTest extends Bench {
    private static final int RUNS = 300, MOST_WRONG = 20, CALLS_OF_THE_FACE = 28;
    /** A text of 300 bytes with its wipe, fault and lay. */
    private static final int CALLS_OF_A_TEXT = 42;

    public static void main(String[] args) {
        for (int run = 0; run < RUNS && wrong < MOST_WRONG; run++) {
            play(new Random(1000 + run), new Twin("run " + run));
        }
        due("calls of the face", Twin.TRIED.size(), CALLS_OF_THE_FACE);
        for (String call : Twin.TRIED.keySet()) {
            int[] tried = Twin.TRIED.get(call);
            due(call + " was tried " + tried[0] + " times and told " + tried[1], tried[0] >= 200 && tried[1] >= 50);
        }
        end();
    }

    private static void play(Random r, Twin t) {
        int pause = r.nextInt(20);
        while (t.left() > 0) {
            pause--;
            if (pause < 0 && t.left() >= CALLS_OF_A_TEXT) {
                next(r, t);
                pause = 20 + r.nextInt(100);
            } else {
                call(r, t);
            }
        }
    }

    /** Mostly a new text; now and then an item behind the old one; not always laid at once. */
    private static void next(Random r, Twin t) {
        if (r.nextInt(5) == 0) {
            t.add(item(r, Math.max(1, t.y.l.n()), 1));
        } else {
            t.put(text(r));
        }
        if (r.nextInt(3) == 0) {
            t.fault();
        }
        if (r.nextInt(8) != 0) {
            t.lay();
        }
    }

    /** Mostly from low to high, now and then just beyond or far away. */
    private static int any(Random r, int low, int high) {
        int way = r.nextInt(60);
        if (way == 0) {
            return low - 1;
        }
        if (way == 1) {
            return high + 1;
        }
        if (way == 2) {
            return r.nextInt();
        }
        return low + r.nextInt(high - low + 1);
    }

    private static int someOf(Random r, int bits) {
        return r.nextInt(30) == 0 ? any(r, 0, 1023) : bits & r.nextInt(1024);
    }

    private static int someHill(Random r, Twin t) {
        return any(r, 0, Math.max(0, t.y.l.n() - 1));
    }

    private static void call(Random r, Twin t) {
        switch (r.nextInt(4)) {
            case 0:
                callOfTexts(r, t);
                break;
            case 1:
                callOfNights(r, t);
                break;
            case 2:
                callOfLiars(r, t);
                break;
            default:
                callOfTheRest(r, t);
        }
    }

    private static void callOfTexts(Random r, Twin t) {
        switch (r.nextInt(12)) {
            case 0:
                t.write(any(r, 1, 8), r.nextLong());
                break;
            case 1:
                t.fault();
                break;
            case 2:
                t.lay();
                break;
            case 3:
                t.keep();
                break;
            case 4:
                t.back();
                break;
            case 5:
            case 6:
            case 7:
            case 8:
                t.count(any(r, 0, 7));
                break;
            default:
                t.hill(someHill(r, t), any(r, 0, 4));
        }
    }

    private static void callOfNights(Random r, Twin t) {
        switch (r.nextInt(8)) {
            case 0:
            case 1: {
                int a = any(r, 0, 20);
                int b = r.nextInt(8) == 0 ? any(r, 0, 59) : a + r.nextInt(20);
                t.ship(someOf(r, t.y.l.bitsOf(1)), a, b);
                break;
            }
            case 2:
                t.burns(someHill(r, t), any(r, 0, 59));
                break;
            case 3:
                t.wood(someHill(r, t));
                break;
            case 4:
                t.alarm();
                break;
            default:
                t.seen(any(r, 0, 59));
        }
    }

    private static void callOfLiars(Random r, Twin t) {
        int heads = t.y.l.bitsOf(1);
        int folk = t.y.l.bitsOf(0) | heads;
        switch (r.nextInt(16)) {
            case 0:
            case 1:
            case 2:
                t.falseBy(someOf(r, folk));
                break;
            case 3:
            case 4:
            case 5:
                t.falseFor(any(r, 0, r.nextBoolean() ? 9 : 4), any(r, 0, 2));
                break;
            case 6:
            case 7:
            case 8:
            case 9: {
                int head = r.nextInt(8) == 0 || heads == 0 ? someHill(r, t) : oneOf(r, heads);
                t.trueBy(head, someOf(r, folk & ~(1 << head)) & (r.nextBoolean() ? r.nextInt(1024) : -1));
                break;
            }
            case 10:
            case 11:
            case 12:
                t.late(any(r, 0, r.nextInt(3) == 0 ? 9 : 2), any(r, 0, 1));
                break;
            default:
                callOfRules(r, t);
        }
    }

    /** Dear in the second telling, so there are fewer of them. */
    private static void callOfRules(Random r, Twin t) {
        switch (r.nextInt(3)) {
            case 0:
                t.bears();
                break;
            case 1:
                t.bestRule(any(r, 0, r.nextInt(3) == 0 ? 9 : 0), any(r, 0, 1));
                break;
            default:
                t.added(any(r, 0, r.nextInt(6) == 0 ? 9 : 0));
        }
    }

    private static void callOfTheRest(Random r, Twin t) {
        switch (r.nextInt(15)) {
            case 0:
            case 1:
            case 2:
            case 3:
                t.log(someHill(r, t), any(r, -1, r.nextBoolean() ? 8 : 60));
                break;
            case 4:
            case 5:
            case 6:
            case 7:
                t.logs(any(r, 0, 3));
                break;
            case 8:
            case 9:
                t.sign(any(r, 0, 5), any(r, 0, 11), any(r, 0, 3));
                break;
            case 10:
                t.near(any(r, 0, 5), any(r, 0, 5));
                break;
            case 11: {
                int top = r.nextBoolean() ? 12 : 4;
                t.watch(any(r, 1, 12), any(r, -1, top), any(r, -1, top), any(r, -1, top), any(r, -1, top));
                break;
            }
            case 12:
                t.cost(any(r, 0, 2), any(r, 0, r.nextBoolean() ? 1000 : 20));
                break;
            case 13:
                t.sends(any(r, 0, 100), any(r, 0, 100));
                break;
            default:
                t.unbelieved(any(r, 0, 100), any(r, 0, 100));
        }
    }

    private static int oneOf(Random r, int bits) {
        int skipped = r.nextInt(Integer.bitCount(bits));
        int rest = bits;
        for (int i = 0; i < skipped; i++) {
            rest &= rest - 1;
        }
        return Integer.numberOfTrailingZeros(rest);
    }

    private static String text(Random r) {
        StringBuilder s = new StringBuilder();
        int n = 1 + r.nextInt(10);
        int ear = r.nextInt(8) == 0 ? -1 : r.nextInt(n);
        int spares = r.nextInt(4);
        int bigRules = r.nextInt(3);
        for (int h = 0; h < n; h++) {
            int kind = h == ear ? 2 : r.nextInt(6) < spares ? 3 : r.nextInt(3) == 0 ? 1 : 0;
            s.append('h').append(kind).append(';');
        }
        int chance = 2 + r.nextInt(6);
        for (int a = 0; a < n; a++) {
            for (int b = a + 1; b < n; b++) {
                if (r.nextInt(10) < chance) {
                    s.append('v').append(r.nextBoolean() ? a + "," + b : b + "," + a).append(';');
                }
            }
        }
        for (int i = r.nextInt(24); i > 0; i--) {
            String item = item(r, n, bigRules);
            // Most texts should be laid: an item with a fault stays now and then alone.
            if (r.nextInt(60) == 0 || Model.faultOf(s + item) == NONE) {
                s.append(item);
            }
        }
        if (r.nextInt(12) == 0) {
            int at = r.nextInt(s.length());
            s.setCharAt(at, "0123456789,;hvrwsgl \u00ff".charAt(r.nextInt(21)));
        }
        s.setLength(Math.min(300, s.length()));
        int whole = s.lastIndexOf(";");
        return r.nextInt(12) == 0 ? s.toString() : s.substring(0, whole + 1);
    }

    private static String item(Random r, int n, int bigRules) {
        int a = r.nextInt(60) == 0 ? n : r.nextInt(n);
        int b = r.nextInt(n);
        int from = r.nextInt(r.nextInt(30) == 0 ? 70 : 30);
        int till = r.nextInt(60) == 0 ? 60 : from + r.nextInt(30);
        int top = bigRules == 0 ? 2 : bigRules == 1 ? 3 : 9;
        int k = r.nextInt(40) == 0 ? 10 * r.nextInt(2) : 1 + r.nextInt(Math.min(3, top));
        int m = r.nextInt(40) == 0 ? 10 * r.nextInt(2) : 1 + r.nextInt(top);
        switch (r.nextInt(6)) {
            case 0:
            case 1:
                return "r" + a + "," + k + "," + m + ";";
            case 2:
                return "w" + a + "," + r.nextInt(r.nextBoolean() ? 100 : 10) + ";";
            case 3:
                return "s" + a + "," + from + "," + till + ";";
            case 4:
                return "g" + a + "," + b + "," + from + "," + till + ";";
            default:
                return "l" + a + "," + from + "," + till + ";";
        }
    }
}
