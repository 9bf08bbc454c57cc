/** What the tests of the project share. The answers stand here as numbers, so that a wrong constant shows. */
class Bench {
    static final int BAD = -1, NO = -2, FULL = -3, NONE = -4;
    static final int LEAST = Integer.MIN_VALUE, GREATEST = Integer.MAX_VALUE;
    static int wrong = 0;
    private static int answers = 0;

    static void due(String what, int got, int want) {
        answers++;
        if (got != want) {
            wrong++;
            System.out.println(what + " answered " + got + ", due is " + want);
        }
    }

    static void due(String what, boolean holds) {
        due(what, holds ? 1 : 0, 1);
    }

    /** Behind what is written already, eight bytes a call. */
    static void add(LyingBeacons x, String text) {
        for (int at = 0; at < text.length(); at += 8) {
            int n = Math.min(8, text.length() - at);
            x.write(n, bytes(text, at, n));
        }
    }

    static long bytes(String text, int at, int n) {
        long v = 0;
        for (int i = 0; i < n; i++) {
            v = v << 8 | text.charAt(at + i);
        }
        return v;
    }

    static void put(LyingBeacons x, String text) {
        x.wipe();
        add(x, text);
    }

    static LyingBeacons laid(String text) {
        LyingBeacons x = new LyingBeacons();
        put(x, text);
        if (x.lay() < 0) {
            wrong++;
            System.out.println("not laid: " + text + ", fault at " + x.fault());
        }
        return x;
    }

    static void faultIs(String text, int want) {
        LyingBeacons x = new LyingBeacons();
        put(x, text);
        due("fault of " + text, x.fault(), want);
        due("lay of " + text, x.lay() == NO ? NO : 0, want == NONE ? 0 : NO);
    }

    /** The head is without fault, and so it is with each of the items behind it alone. */
    static void fine(String head, String... items) {
        faultIs(head, NONE);
        for (String item : items) {
            faultIs(head + item, NONE);
        }
    }

    /** The head is without fault, and each of the items behind it alone is the fault. */
    static void faulty(String head, String... items) {
        faultIs(head, NONE);
        for (String item : items) {
            faultIs(head + item, head.length());
        }
    }

    static String hills(String kinds) {
        StringBuilder s = new StringBuilder();
        for (char kind : kinds.toCharArray()) {
            s.append('h').append(kind).append(';');
        }
        return s.toString();
    }

    /** Hill 0 sees the next ones, up to this many. */
    static String star(int others) {
        StringBuilder s = new StringBuilder();
        for (int h = 1; h <= others; h++) {
            s.append("v0,").append(h).append(';');
        }
        return s.toString();
    }

    /** 0 sees 1, 1 sees 2, and so on, so many sights. */
    static String chain(int sights) {
        StringBuilder s = new StringBuilder();
        for (int h = 0; h < sights; h++) {
            s.append('v').append(h).append(',').append(h + 1).append(';');
        }
        return s.toString();
    }

    static String allSights(int hills) {
        StringBuilder s = new StringBuilder();
        for (int a = 0; a < hills; a++) {
            for (int b = a + 1; b < hills; b++) {
                s.append('v').append(a).append(',').append(b).append(';');
            }
        }
        return s.toString();
    }

    static int below(int bit) {
        return (1 << bit) - 1;
    }

    static void end() {
        System.out.println(answers - wrong + " answers are as due, " + wrong + " are not");
        if (wrong != 0 || answers == 0) {
            System.exit(1);
        }
    }
}
