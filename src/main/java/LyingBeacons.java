/**
 * Beacons that may lie, as ../shared/DOC.md tells them: each public method is one promise of it.
 * Every row is made in a constructor and used again, so that no call makes an object.
 */
public final class LyingBeacons {
    public static final int BAD = -1, NO = -2, FULL = -3, NONE = -4;

    private static final int BAD_LOG = -100;
    private static final int HILLS = 10;
    private static final int PAIRS = HILLS * HILLS;
    private static final int MINUTES = 60;
    private static final int TEXT_BYTES = 300;
    private static final int NOBODY = -1, RELAY = 0, HEAD = 1, EAR = 2, SPARE = 3;
    private static final int MOST_NEEDED = 9, LONGEST_SPAN = 9;
    private static final int MOST_WOOD = 99;
    private static final int NEVER = 60, UNWRITTEN = -1;
    /** As many sets as ten hills have. */
    private static final int SETS = 1024;
    /** Nine hills that wait nine minutes each, and the EAR's nine, end below this minute. */
    private static final int REACH = 100;
    private static final int MOST_LIARS = 9;
    private static final int BEST_NEEDED = 4, BEST_SPAN = 3;
    private static final int SIGNS = 6, SIGN_MINUTES = 12, MOST_FIRES = 3, MOST_MOVED = 3;
    private static final int MEN = 4, MOST_HOURS = 12, ABSENT = -1;
    private static final int MOST_COST = 1000, MOST_NIGHTS = 100, MOST_MORE = 1000;
    private static final int MOST_KEPT = 2;

    private final byte[] text = new byte[TEXT_BYTES];
    private int length = 0;
    private final Reader reader = new Reader();
    private final Net draft = new Net();
    private final Net net = new Net();
    private final Net firstKept = new Net();
    private final Net secondKept = new Net();
    private int kept = 0;
    private final Night night = new Night();
    private boolean nightPlayed = false;
    private final Council council = new Council();
    private final Signs signs = new Signs();
    private final Watchmen watchmen = new Watchmen();
    private final King king = new King();

    public LyingBeacons() {
    }

    // ---- texts, nights

    public int write(int n, long v) {
        if (n < 1 || n > 8) {
            return BAD;
        }
        if (length + n > TEXT_BYTES) {
            return FULL;
        }
        for (int i = n - 1; i >= 0; i--) {
            text[length] = (byte) (v >>> (8 * i));
            length++;
        }
        return length;
    }

    public int wipe() {
        int was = length;
        length = 0;
        return was;
    }

    public int fault() {
        return reader.firstFault(text, length, draft);
    }

    public int lay() {
        if (reader.firstFault(text, length, draft) != NONE) {
            return NO;
        }
        net.become(draft);
        nightPlayed = false;
        return net.hills;
    }

    public int hill(int hill, int what) {
        if (!net.isHill(hill)) {
            return BAD;
        }
        switch (what) {
            case 0:
                return net.kind[hill];
            case 1:
                return net.sees[hill];
            case 2:
                return net.needs[hill];
            case 3:
                return net.span[hill];
            case 4:
                return net.stock[hill];
            default:
                return BAD;
        }
    }

    public int ship(int heads, int a, int b) {
        if ((heads & ~net.ofKind(HEAD)) != 0 || !isMinute(a) || !isMinute(b) || a > b) {
            return BAD;
        }
        net.shipHeads = heads;
        net.shipMinutes = minutesFrom(a, b);
        nightPlayed = false;
        return 0;
    }

    public int burns(int hill, int minute) {
        if (!net.isHill(hill) || !isMinute(minute)) {
            return BAD;
        }
        playNight();
        return night.isLit(hill, minute) ? 1 : 0;
    }

    public int seen(int minute) {
        if (!isMinute(minute)) {
            return BAD;
        }
        playNight();
        int bits = 0;
        for (int h = 0; h < HILLS; h++) {
            if (night.isLit(h, minute)) {
                bits |= 1 << h;
            }
        }
        return bits;
    }

    public int wood(int hill) {
        if (!net.isHill(hill)) {
            return BAD;
        }
        playNight();
        return night.left[hill];
    }

    public int alarm() {
        if (!net.hasEar()) {
            return NO;
        }
        playNight();
        return night.firstAlarm;
    }

    // ---- liars borne

    public int falseBy(int liars) {
        if ((liars & ~net.folk()) != 0) {
            return BAD;
        }
        if (!net.hasEar()) {
            return NO;
        }
        council.study(net);
        return council.isFooledBy(liars) ? 1 : 0;
    }

    public int falseFor(int b, int what) {
        if (!isNumberOfLiars(b) || what < 0 || what > 2) {
            return BAD;
        }
        if (!net.hasEar()) {
            return NO;
        }
        council.study(net);
        if (what == 0) {
            return council.foolingSets(b);
        }
        int least = council.leastFoolingSet(b);
        if (least == NONE || what == 1) {
            return least;
        }
        return council.ring(least);
    }

    public int trueBy(int head, int silent) {
        if (!net.isHill(head) || net.kind[head] != HEAD || (silent & ~(net.folk() & ~(1 << head))) != 0) {
            return BAD;
        }
        if (!net.hasEar()) {
            return NO;
        }
        council.study(net);
        return council.trueMinute(head, silent);
    }

    public int late(int b, int q) {
        if (!isNumberOfLiars(b) || q < 0 || q > 1) {
            return BAD;
        }
        if (!net.hasEar()) {
            return NO;
        }
        council.study(net);
        return q == 0 ? council.latest(b) : council.latestWithOneSightGone(b);
    }

    public int bears() {
        if (!net.hasEar()) {
            return NO;
        }
        council.study(net);
        return council.mostBorne();
    }

    public int bestRule(int b, int what) {
        if (!isNumberOfLiars(b) || what < 0 || what > 1) {
            return BAD;
        }
        if (!net.hasEar()) {
            return NO;
        }
        council.study(net);
        council.seekBestRule(b);
        return what == 0 ? council.bestMark : council.bestMinute;
    }

    public int added(int b) {
        if (!isNumberOfLiars(b)) {
            return BAD;
        }
        if (!net.hasEar()) {
            return NO;
        }
        council.study(net);
        return council.fewestSpares(b, net.ofKind(SPARE));
    }

    // ---- logs, signs

    public int log(int hill, int minute) {
        if (!net.isHill(hill) || minute < UNWRITTEN || minute > NEVER) {
            return BAD_LOG;
        }
        int was = net.logged[hill];
        net.logged[hill] = minute;
        return was;
    }

    public int logs(int what) {
        switch (what) {
            case 0:
                return Logbook.sureWithoutCause(net);
            case 1:
                return Logbook.maybeWithoutCause(net);
            case 2:
                return Logbook.toBeAsked(net);
            case 3:
                council.study(net);
                return Logbook.tooSoon(net, council);
            default:
                return BAD;
        }
    }

    public int sign(int sign, int minute, int fires) {
        if (!isSign(sign) || minute < 0 || minute >= SIGN_MINUTES || fires < 0 || fires > MOST_FIRES) {
            return BAD;
        }
        int was = signs.firesIn(sign, minute);
        signs.setFires(sign, minute, fires);
        return was;
    }

    public int near(int a, int b) {
        if (!isSign(a) || !isSign(b) || a == b) {
            return BAD;
        }
        return signs.fewestTaken(a, b);
    }

    // ---- watch, king

    public int watch(int t, int a, int b, int c, int d) {
        if (t < 1 || t > MOST_HOURS || !isMan(a) || !isMan(b) || !isMan(c) || !isMan(d)) {
            return BAD;
        }
        watchmen.come(a, b, c, d);
        return watchmen.hoursWatched(t);
    }

    public int cost(int what, int v) {
        if (what < 0 || what > 2 || v < 0 || v > MOST_COST) {
            return BAD;
        }
        int was = king.costs[what];
        king.costs[what] = v;
        return was;
    }

    public int sends(int f, int t) {
        if (!isNumberOfNights(f) || !isNumberOfNights(t)) {
            return BAD;
        }
        return king.wouldSend(f, t) ? 1 : 0;
    }

    public int unbelieved(int f, int t) {
        if (!isNumberOfNights(f) || !isNumberOfNights(t)) {
            return BAD;
        }
        return king.moreFalseNights(f, t);
    }

    public int keep() {
        if (kept >= MOST_KEPT) {
            return FULL;
        }
        Net place = kept == 0 ? firstKept : secondKept;
        place.become(net);
        kept++;
        return kept;
    }

    public int back() {
        if (kept <= 0) {
            return NO;
        }
        kept--;
        net.become(kept == 0 ? firstKept : secondKept);
        nightPlayed = false;
        return kept;
    }

    public int count(int what) {
        switch (what) {
            case 0:
                return net.hills;
            case 1:
                return net.sights();
            case 2:
                return Integer.bitCount(net.ofKind(HEAD));
            case 3:
                return Integer.bitCount(net.ofKind(SPARE));
            case 4:
                return net.liars();
            case 5:
                return length;
            case 6:
                return net.logsWritten();
            case 7:
                return kept;
            default:
                return BAD;
        }
    }

    private void playNight() {
        if (!nightPlayed) {
            night.play(net);
            nightPlayed = true;
        }
    }

    private static boolean isMinute(int minute) {
        return minute >= 0 && minute < MINUTES;
    }

    private static boolean isNumberOfLiars(int b) {
        return b >= 0 && b <= MOST_LIARS;
    }

    private static boolean isSign(int sign) {
        return sign >= 0 && sign < SIGNS;
    }

    private static boolean isMan(int hours) {
        return hours >= ABSENT && hours <= MOST_HOURS;
    }

    private static boolean isNumberOfNights(int nights) {
        return nights >= 0 && nights <= MOST_NIGHTS;
    }

    /** Minutes a to b of a night (a no more than b), a bit each. */
    private static long minutesFrom(int a, int b) {
        return -1L >>> (63 - (b - a)) << a;
    }

    /** What is LAID, its SHIP and its LOGS: all that is KEPT. */
    private static final class Net {
        int hills = 0;
        final int[] kind = new int[HILLS];
        final int[] sees = new int[HILLS];
        final int[] needs = new int[HILLS];
        final int[] span = new int[HILLS];
        final int[] stock = new int[HILLS];
        final int[] logged = new int[HILLS];
        final long[] asleep = new long[HILLS];
        final long[] lies = new long[HILLS];
        /** At a * HILLS + b the minutes of mist between a and b, told both ways. */
        final long[] mist = new long[PAIRS];
        int shipHeads = 0;
        long shipMinutes = 0;

        Net() {
            clear();
        }

        void clear() {
            hills = 0;
            shipHeads = 0;
            shipMinutes = 0;
            for (int h = 0; h < HILLS; h++) {
                kind[h] = NOBODY;
                sees[h] = 0;
                needs[h] = 1;
                span[h] = 1;
                stock[h] = MOST_WOOD;
                logged[h] = UNWRITTEN;
                asleep[h] = 0;
                lies[h] = 0;
            }
            for (int p = 0; p < PAIRS; p++) {
                mist[p] = 0;
            }
        }

        void become(Net other) {
            hills = other.hills;
            shipHeads = other.shipHeads;
            shipMinutes = other.shipMinutes;
            for (int h = 0; h < HILLS; h++) {
                kind[h] = other.kind[h];
                sees[h] = other.sees[h];
                needs[h] = other.needs[h];
                span[h] = other.span[h];
                stock[h] = other.stock[h];
                logged[h] = other.logged[h];
                asleep[h] = other.asleep[h];
                lies[h] = other.lies[h];
            }
            for (int p = 0; p < PAIRS; p++) {
                mist[p] = other.mist[p];
            }
        }

        boolean isHill(int hill) {
            return hill >= 0 && hill < hills && hill < HILLS;
        }

        int ofKind(int wanted) {
            int bits = 0;
            for (int h = 0; h < HILLS; h++) {
                if (kind[h] == wanted) {
                    bits |= 1 << h;
                }
            }
            return bits;
        }

        /** MANNED, without the EAR: those who can burn. */
        int folk() {
            return ofKind(RELAY) | ofKind(HEAD);
        }

        boolean hasEar() {
            return ofKind(EAR) != 0;
        }

        int sights() {
            int ends = 0;
            for (int h = 0; h < HILLS; h++) {
                ends += Integer.bitCount(sees[h]);
            }
            return ends >> 1;
        }

        int liars() {
            int told = 0;
            for (int h = 0; h < HILLS; h++) {
                if (lies[h] != 0) {
                    told++;
                }
            }
            return told;
        }

        int logsWritten() {
            int written = 0;
            for (int h = 0; h < HILLS; h++) {
                if (logged[h] != UNWRITTEN) {
                    written++;
                }
            }
            return written;
        }

        void addMist(int a, int b, long minutes) {
            if (isHill(a) && isHill(b)) {
                mist[a * HILLS + b] |= minutes;
                mist[b * HILLS + a] |= minutes;
            }
        }
    }

    /** Reads a TEXT into a net, item by item, up to the first fault. */
    private static final class Reader {
        private static final int MOST_NUMBERS = 4;
        private final int[] numbers = new int[MOST_NUMBERS];
        private int numbersRead = 0;
        private int place = 0;
        private int letter = 0;
        private boolean onlyHillsYet = true;
        private int ruled = 0;
        private int stocked = 0;

        Reader() {
        }

        int firstFault(byte[] text, int length, Net into) {
            into.clear();
            place = 0;
            onlyHillsYet = true;
            ruled = 0;
            stocked = 0;
            for (int item = 0; item < TEXT_BYTES && place < length; item++) {
                int start = place;
                if (!readItem(text, length) || !takeItem(into)) {
                    return start;
                }
            }
            return NONE;
        }

        /** A letter, numbers parted by commas, a semicolon. */
        private boolean readItem(byte[] text, int length) {
            letter = byteAt(text, length);
            place++;
            numbersRead = 0;
            for (int n = 0; n < MOST_NUMBERS; n++) {
                int number = readNumber(text, length);
                if (number < 0) {
                    return false;
                }
                numbers[n] = number;
                numbersRead = n + 1;
                int mark = byteAt(text, length);
                place++;
                if (mark == ';') {
                    return true;
                }
                if (mark != ',') {
                    return false;
                }
            }
            return false;
        }

        /** One or two figures, or -1. */
        private int readNumber(byte[] text, int length) {
            int number = byteAt(text, length) - '0';
            if (number < 0 || number > 9) {
                return -1;
            }
            place++;
            int figure = byteAt(text, length) - '0';
            if (figure < 0 || figure > 9) {
                return number;
            }
            place++;
            return 10 * number + figure;
        }

        private int byteAt(byte[] text, int length) {
            return place >= 0 && place < length && place < text.length ? text[place] : -1;
        }

        private boolean takeItem(Net into) {
            if (letter == 'h') {
                return onlyHillsYet && takeHill(into);
            }
            onlyHillsYet = false;
            if (!into.isHill(numbers[0])) {
                return false;
            }
            switch (letter) {
                case 'v':
                    return takeSight(into);
                case 'r':
                    return takeRule(into);
                case 'w':
                    return takeWood(into);
                case 's':
                    return takeSleep(into);
                case 'g':
                    return takeMist(into);
                case 'l':
                    return takeLiar(into);
                default:
                    return false;
            }
        }

        private boolean takeHill(Net into) {
            int kind = numbers[0];
            if (numbersRead != 1 || kind > SPARE || into.hills >= HILLS || (kind == EAR && into.hasEar())) {
                return false;
            }
            into.kind[into.hills] = kind;
            into.hills++;
            return true;
        }

        private boolean takeSight(Net into) {
            int a = numbers[0];
            int b = numbers[1];
            if (numbersRead != 2 || !into.isHill(a) || !into.isHill(b) || a == b || isSight(into, a, b)) {
                return false;
            }
            into.sees[a] |= 1 << b;
            into.sees[b] |= 1 << a;
            return true;
        }

        private boolean takeRule(Net into) {
            int a = numbers[0];
            int k = numbers[1];
            int m = numbers[2];
            if (numbersRead != 3 || !into.isHill(a) || (ruled >> a & 1) != 0) {
                return false;
            }
            if (k < 1 || k > MOST_NEEDED || m < 1 || m > LONGEST_SPAN) {
                return false;
            }
            into.needs[a] = k;
            into.span[a] = m;
            ruled |= 1 << a;
            return true;
        }

        private boolean takeWood(Net into) {
            int a = numbers[0];
            if (numbersRead != 2 || !into.isHill(a) || (stocked >> a & 1) != 0) {
                return false;
            }
            into.stock[a] = numbers[1];
            stocked |= 1 << a;
            return true;
        }

        private boolean takeSleep(Net into) {
            int a = numbers[0];
            if (numbersRead != 3 || !into.isHill(a) || !areMinutes(1)) {
                return false;
            }
            into.asleep[a] |= minutesFrom(numbers[1], numbers[2]);
            return true;
        }

        private boolean takeMist(Net into) {
            int a = numbers[0];
            int b = numbers[1];
            if (numbersRead != 4 || !isSight(into, a, b) || !areMinutes(2)) {
                return false;
            }
            into.addMist(a, b, minutesFrom(numbers[2], numbers[3]));
            return true;
        }

        private boolean takeLiar(Net into) {
            int a = numbers[0];
            if (numbersRead != 3 || !into.isHill(a) || !areMinutes(1)) {
                return false;
            }
            if (into.kind[a] == EAR || into.kind[a] == SPARE) {
                return false;
            }
            into.lies[a] |= minutesFrom(numbers[1], numbers[2]);
            return true;
        }

        private static boolean isSight(Net net, int a, int b) {
            return net.isHill(a) && net.isHill(b) && (net.sees[a] >> b & 1) != 0;
        }

        /** Whether the number at this place and the next are minutes a to b. */
        private boolean areMinutes(int at) {
            if (at < 0 || at + 1 >= MOST_NUMBERS) {
                return false;
            }
            return isMinute(numbers[at]) && isMinute(numbers[at + 1]) && numbers[at] <= numbers[at + 1];
        }
    }

    /** A night, minute by minute. */
    private static final class Night {
        final int[] left = new int[HILLS];
        int firstAlarm = NONE;
        /** Of each hill the minutes in which it burns, a bit each. */
        private final long[] lit = new long[HILLS];

        Night() {
        }

        boolean isLit(int hill, int minute) {
            return hill >= 0 && hill < HILLS && isMinute(minute) && (lit[hill] >>> minute & 1L) != 0;
        }

        void play(Net net) {
            firstAlarm = NONE;
            for (int h = 0; h < HILLS; h++) {
                lit[h] = 0;
                left[h] = net.stock[h];
            }
            for (int minute = 0; minute < MINUTES; minute++) {
                playMinute(net, minute);
                if (firstAlarm == NONE && isHeard(net, minute)) {
                    firstAlarm = minute;
                }
            }
        }

        private void playMinute(Net net, int minute) {
            for (int h = 0; h < HILLS; h++) {
                if (left[h] > 0 && isFired(net, h, minute)) {
                    lit[h] |= 1L << minute;
                    left[h]--;
                }
            }
        }

        private boolean isFired(Net net, int h, int minute) {
            if (h < 0 || h >= HILLS) {
                return false;
            }
            if (net.lies[h] != 0) {
                return (net.lies[h] >>> minute & 1L) != 0;
            }
            boolean canBurn = net.kind[h] == RELAY || net.kind[h] == HEAD;
            if (minute == 0 || !canBurn || (net.asleep[h] >>> minute & 1L) != 0) {
                return false;
            }
            int ahead = minute - 1;
            return isLit(h, ahead) || sawShip(net, h, ahead) || ruleHeld(net, h, ahead);
        }

        private static boolean sawShip(Net net, int h, int minute) {
            return (net.shipHeads >> h & 1) != 0 && (net.shipMinutes >>> minute & 1L) != 0;
        }

        /** Whether the rule of a hill held in the minutes up to this one. */
        private boolean ruleHeld(Net net, int h, int minute) {
            if (h < 0 || h >= HILLS) {
                return false;
            }
            int first = minute - net.span[h] + 1;
            if (first < 0) {
                return false;
            }
            long minutes = minutesFrom(first, minute);
            int burning = 0;
            for (int other = 0; other < HILLS; other++) {
                if ((net.sees[h] >> other & 1) != 0) {
                    long clear = lit[other] & ~net.mist[h * HILLS + other];
                    if ((clear & minutes) == minutes) {
                        burning++;
                    }
                }
            }
            return burning >= net.needs[h];
        }

        private boolean isHeard(Net net, int minute) {
            for (int h = 0; h < HILLS; h++) {
                if (net.kind[h] == EAR) {
                    return (net.asleep[h] >>> minute & 1L) == 0 && ruleHeld(net, h, minute);
                }
            }
            return false;
        }
    }

    /** What liars, silent ones and gone sights do to a net without wood, sleep and mist. */
    private static final class Council {
        int bestMark = NONE;
        int bestMinute = NONE;
        private int ear = NOBODY;
        private int heads = 0;
        private int folk = 0;
        private final int[] sees = new int[HILLS];
        private final int[] needs = new int[HILLS];
        private final int[] span = new int[HILLS];
        /** Of each minute up to the last one looked at the hills that burn in it, as bits. */
        private final int[] lit = new int[REACH];
        private int lastMinute = 0;

        Council() {
        }

        void study(Net net) {
            ear = NOBODY;
            heads = net.ofKind(HEAD);
            folk = net.folk();
            for (int h = 0; h < HILLS; h++) {
                sees[h] = net.sees[h];
                needs[h] = net.needs[h];
                span[h] = net.span[h];
                if (net.kind[h] == EAR) {
                    ear = h;
                }
            }
        }

        /** The hills that burn in the end, if these burn always. */
        int ring(int liars) {
            int burning = liars;
            for (int round = 0; round < HILLS; round++) {
                int before = burning;
                for (int h = 0; h < HILLS; h++) {
                    if ((folk >> h & 1) != 0 && Integer.bitCount(sees[h] & burning) >= needs[h]) {
                        burning |= 1 << h;
                    }
                }
                if (burning == before) {
                    break;
                }
            }
            return burning;
        }

        boolean isFooledBy(int liars) {
            if (ear < 0 || ear >= HILLS) {
                return false;
            }
            return Integer.bitCount(sees[ear] & ring(liars)) >= needs[ear];
        }

        int foolingSets(int size) {
            int sets = 0;
            int liars = 0;
            for (int i = 0; i < SETS; i++) {
                if (Integer.bitCount(liars) == size && isFooledBy(liars)) {
                    sets++;
                }
                liars = nextSet(liars, folk);
                if (liars == 0) {
                    break;
                }
            }
            return sets;
        }

        int leastFoolingSet(int size) {
            int liars = 0;
            for (int i = 0; i < SETS; i++) {
                if (Integer.bitCount(liars) == size && isFooledBy(liars)) {
                    return liars;
                }
                liars = nextSet(liars, folk);
                if (liars == 0) {
                    break;
                }
            }
            return NONE;
        }

        /** The sets within one, by their bits upwards; 0 comes behind the last. */
        private static int nextSet(int set, int within) {
            return (set - within) & within;
        }

        int trueMinute(int head, int silent) {
            return spread(1 << head, silent, ear);
        }

        /** Tells burnsFrom, all HEADS burning from minute 1 on: without a listener it goes on to the end. */
        void spreadFromAllHeads() {
            spread(heads, 0, NOBODY);
        }

        int burnsFrom(int hill) {
            for (int minute = 1; minute <= lastMinute && minute < REACH; minute++) {
                if ((lit[minute] >> hill & 1) != 0) {
                    return minute;
                }
            }
            return NONE;
        }

        /** The starters burn from minute 1 on: the minute up to which the listener's rule held first; NONE. */
        private int spread(int starters, int silent, int listener) {
            int waiting = folk & ~silent & ~starters;
            int burning = starters;
            int lastChange = 1;
            // Behind the longest span without a change nothing can change any more.
            for (int minute = 1; minute < REACH && minute <= lastChange + LONGEST_SPAN; minute++) {
                lit[minute] = burning;
                lastMinute = minute;
                if (ruleHeld(listener, minute)) {
                    return minute;
                }
                for (int h = 0; h < HILLS; h++) {
                    if ((waiting >> h & 1) != 0 && ruleHeld(h, minute)) {
                        burning |= 1 << h;
                        lastChange = minute + 1;
                    }
                }
                waiting &= ~burning;
            }
            return NONE;
        }

        /** Who burns here goes on burning, so the first of the minutes tells them all. */
        private boolean ruleHeld(int hill, int minute) {
            if (hill < 0 || hill >= HILLS) {
                return false;
            }
            int first = minute - span[hill] + 1;
            if (first < 1 || first >= REACH) {
                return false;
            }
            return Integer.bitCount(sees[hill] & lit[first]) >= needs[hill];
        }

        int latest(int b) {
            // Of any HEAD the others are all but one, so that each has sets of the same size.
            int size = Math.min(b, Integer.bitCount(folk) - 1);
            int worst = NONE;
            int silent = 0;
            for (int i = 0; i < SETS; i++) {
                int speaking = Integer.bitCount(silent) == size ? heads & ~silent : 0;
                for (int h = 0; h < HILLS; h++) {
                    if ((speaking >> h & 1) != 0) {
                        int minute = spread(1 << h, silent, ear);
                        if (minute == NONE) {
                            return NONE;
                        }
                        worst = Math.max(worst, minute);
                    }
                }
                silent = nextSet(silent, folk);
                if (silent == 0) {
                    break;
                }
            }
            return worst;
        }

        int latestWithOneSightGone(int b) {
            int worst = NONE;
            boolean anySight = false;
            for (int low = 0; low < HILLS; low++) {
                for (int high = low + 1; high < HILLS; high++) {
                    if ((sees[low] >> high & 1) != 0) {
                        anySight = true;
                        turnSight(low, high);
                        int minute = latest(b);
                        turnSight(low, high);
                        if (minute == NONE) {
                            return NONE;
                        }
                        worst = Math.max(worst, minute);
                    }
                }
            }
            return anySight ? worst : latest(b);
        }

        /** A sight goes, or comes back. */
        private void turnSight(int a, int b) {
            if (a >= 0 && a < HILLS && b >= 0 && b < HILLS) {
                sees[a] ^= 1 << b;
                sees[b] ^= 1 << a;
            }
        }

        /** LATE for b, if b liars are borne; NONE. */
        private int latestIfBorne(int b) {
            // A set that fools does so with more liars, too: sets of b are enough for b or fewer.
            int size = Math.min(b, Integer.bitCount(folk));
            return leastFoolingSet(size) == NONE ? latest(b) : NONE;
        }

        int mostBorne() {
            int most = NONE;
            for (int b = 0; b <= MOST_LIARS; b++) {
                if (latestIfBorne(b) == NONE) {
                    break;
                }
                most = b;
            }
            return most;
        }

        void seekBestRule(int b) {
            bestMark = NONE;
            bestMinute = NONE;
            for (int k = 1; k <= BEST_NEEDED; k++) {
                for (int m = 1; m <= BEST_SPAN; m++) {
                    ruleAllBy(k, m);
                    int minute = latestIfBorne(b);
                    if (minute != NONE && (bestMinute == NONE || minute < bestMinute)) {
                        bestMark = 10 * k + m;
                        bestMinute = minute;
                    }
                }
            }
        }

        private void ruleAllBy(int k, int m) {
            for (int h = 0; h < HILLS; h++) {
                needs[h] = k;
                span[h] = m;
            }
        }

        /** Who bears more bears b, too: fewer liars fool less, and fewer silent ones delay less. */
        int fewestSpares(int b, int spares) {
            int manned = folk;
            for (int size = 0; size <= HILLS; size++) {
                int set = 0;
                for (int i = 0; i < SETS; i++) {
                    folk = manned | set;
                    if (Integer.bitCount(set) == size && latestIfBorne(b) != NONE) {
                        return set;
                    }
                    set = nextSet(set, spares);
                    if (set == 0) {
                        break;
                    }
                }
            }
            return NONE;
        }
    }

    /** Who burnt without cause, and too soon, by the logs. */
    private static final class Logbook {
        private static final int UNASKED = -1, SURE = 0, MAYBE = 1, CLEARED = 2;

        private Logbook() {
        }

        static int sureWithoutCause(Net net) {
            return judged(net, SURE);
        }

        static int maybeWithoutCause(Net net) {
            return judged(net, MAYBE);
        }

        private static int judged(Net net, int wanted) {
            int bits = 0;
            for (int h = 0; h < HILLS; h++) {
                if (judgement(net, h) == wanted) {
                    bits |= 1 << h;
                }
            }
            return bits;
        }

        private static int judgement(Net net, int h) {
            if (h < 0 || h >= HILLS || net.kind[h] != RELAY || !isBurning(net.logged[h])) {
                return UNASKED;
            }
            int latest = net.logged[h] - net.span[h];
            int written = 0;
            int unwritten = 0;
            int seen = net.sees[h] & net.folk();
            for (int other = 0; other < HILLS; other++) {
                if (latest >= 0 && (seen >> other & 1) != 0) {
                    if (net.logged[other] == UNWRITTEN) {
                        unwritten++;
                    } else if (net.logged[other] <= latest) {
                        written++;
                    }
                }
            }
            if (written + unwritten < net.needs[h]) {
                return SURE;
            }
            return written < net.needs[h] ? MAYBE : CLEARED;
        }

        private static boolean isBurning(int logged) {
            return logged != UNWRITTEN && logged < NEVER;
        }

        static int toBeAsked(Net net) {
            int doubtful = judged(net, MAYBE);
            int folk = net.folk();
            int asked = NONE;
            int most = 0;
            for (int h = 0; h < HILLS; h++) {
                int seenBy = Integer.bitCount(net.sees[h] & doubtful);
                if ((folk >> h & 1) != 0 && net.logged[h] == UNWRITTEN && seenBy > most) {
                    asked = h;
                    most = seenBy;
                }
            }
            return asked;
        }

        static int tooSoon(Net net, Council council) {
            int earliest = earliestHead(net);
            if (earliest == NEVER) {
                return 0;
            }
            council.spreadFromAllHeads();
            int bits = 0;
            for (int h = 0; h < HILLS; h++) {
                if (net.kind[h] == RELAY && isBurning(net.logged[h])) {
                    int due = council.burnsFrom(h);
                    if (due == NONE || net.logged[h] < due + earliest - 1) {
                        bits |= 1 << h;
                    }
                }
            }
            return bits;
        }

        private static int earliestHead(Net net) {
            int earliest = NEVER;
            for (int h = 0; h < HILLS; h++) {
                if (net.kind[h] == HEAD && net.logged[h] != UNWRITTEN) {
                    earliest = Math.min(earliest, net.logged[h]);
                }
            }
            return earliest;
        }
    }

    /** Signs of twelve minutes, and the mist that makes two of them alike. */
    private static final class Signs {
        private final int[] fires = new int[SIGNS * SIGN_MINUTES];

        Signs() {
        }

        int firesIn(int sign, int minute) {
            if (!isSign(sign) || minute < 0 || minute >= SIGN_MINUTES) {
                return 0;
            }
            return fires[sign * SIGN_MINUTES + minute];
        }

        void setFires(int sign, int minute, int number) {
            if (isSign(sign) && minute >= 0 && minute < SIGN_MINUTES) {
                fires[sign * SIGN_MINUTES + minute] = number;
            }
        }

        int fewestTaken(int a, int b) {
            int fewest = 2 * SIGN_MINUTES;
            for (int moved = -MOST_MOVED; moved <= MOST_MOVED; moved++) {
                fewest = Math.min(fewest, takenIfMoved(a, b, moved));
            }
            return fewest;
        }

        private int takenIfMoved(int a, int b, int moved) {
            int taken = 0;
            for (int minute = -MOST_MOVED; minute < SIGN_MINUTES + MOST_MOVED; minute++) {
                int one = firesIn(a, minute);
                int other = firesIn(b, minute + moved);
                // Mist hides all fires of a minute: unlike ones must both be hidden.
                if (one != other) {
                    taken += (one > 0 ? 1 : 0) + (other > 0 ? 1 : 0);
                }
            }
            return taken;
        }
    }

    /** Four men who watch by turns. */
    private static final class Watchmen {
        private final int[] hours = new int[MEN];

        Watchmen() {
        }

        void come(int a, int b, int c, int d) {
            hours[0] = a;
            hours[1] = b;
            hours[2] = c;
            hours[3] = d;
        }

        int hoursWatched(int t) {
            int watched = 0;
            int awake = NOBODY;
            for (int hour = 0; hour < t; hour++) {
                awake = nextAwake(awake);
                if (awake >= 0 && awake < MEN) {
                    hours[awake]--;
                    watched++;
                }
            }
            return watched;
        }

        private int nextAwake(int before) {
            int next = NOBODY;
            int most = 0;
            for (int man = 0; man < MEN; man++) {
                if (man != before && hours[man] > most) {
                    next = man;
                    most = hours[man];
                }
            }
            return next;
        }
    }

    /** What the king does, by his costs: in vain, not sent when true, sent when true. */
    private static final class King {
        final int[] costs = {100, 1000, 100};

        King() {
        }

        boolean wouldSend(int falseNights, int trueNights) {
            int sending = (falseNights + 1) * costs[0] + (trueNights + 1) * costs[2];
            return sending <= (trueNights + 1) * costs[1];
        }

        int moreFalseNights(int falseNights, int trueNights) {
            for (int more = 0; more <= MOST_MORE; more++) {
                if (!wouldSend(falseNights + more, trueNights)) {
                    return more;
                }
            }
            return NONE;
        }
    }
}
