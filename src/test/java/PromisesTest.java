/** For each promise of the document ordinary inputs, the edges it names, and wrong inputs. */
public final class PromisesTest extends Bench {
    private static final String DIAMOND = "h1;h0;h0;h2;v0,1;v0,2;v1,3;v2,3;v1,2;r3,2,1;";

    public static void main(String[] args) {
        newObject();
        write();
        wipe();
        faultOfForm();
        faultOfHills();
        faultOfItems();
        lay();
        hill();
        ship();
        burnsAndSeen();
        nightByRules();
        nightOfLiars();
        minutesToldTwice();
        wood();
        alarm();
        falseBy();
        falseFor();
        trueBy();
        late();
        bears();
        bestRule();
        added();
        log();
        logsOfCause();
        logsAsked();
        logsTooSoon();
        sign();
        near();
        watch();
        cost();
        sends();
        unbelieved();
        keepAndBack();
        count();
        end();
    }

    private static void newObject() {
        LyingBeacons x = new LyingBeacons();
        for (int what = 0; what <= 7; what++) {
            due("1: count(" + what + ") of a new one", x.count(what), 0);
        }
        due("1: fault", x.fault(), NONE);
        due("1: hill", x.hill(0, 0), BAD);
        due("1: seen", x.seen(0), 0);
        due("1: alarm", x.alarm(), NO);
        due("1: back", x.back(), NO);
    }

    private static void write() {
        LyingBeacons x = new LyingBeacons();
        due("2: n 0", x.write(0, 0), BAD);
        due("2: n 9", x.write(9, 0), BAD);
        due("2: n -1", x.write(-1, 0), BAD);
        due("2: n least", x.write(Integer.MIN_VALUE, 0), BAD);
        due("2: three of eight bytes", x.write(3, 0x1122334455L << 24 | 'h' << 16 | '3' << 8 | ';'), 3);
        due("2: lay", x.lay(), 1);
        due("2: kind", x.hill(0, 0), 3);
        due("2: eight", x.write(8, -1L), 11);
        due("2: fault of a high byte", x.fault(), 3);
        for (int i = 0; i < 36; i++) {
            x.write(8, 0);
        }
        due("2: length", x.count(5), 299);
        due("2: full by 2", x.write(2, 0), FULL);
        due("2: bad ahead of full", x.write(9, 0), BAD);
        due("2: nothing changed", x.count(5), 299);
        due("2: the last byte", x.write(1, 0), 300);
        due("2: full by 1", x.write(1, 0), FULL);
    }

    private static void wipe() {
        LyingBeacons x = laid("h1;");
        due("3: was", x.wipe(), 3);
        due("3: is", x.wipe(), 0);
        due("3: laid stays", x.count(0), 1);
        due("3: writes anew", x.write(1, 'h'), 1);
    }

    private static void faultOfForm() {
        faultIs("", NONE);
        faultIs(";", 0);
        faultIs("h", 0);
        faultIs("h0", 0);
        faultIs("h;", 0);
        faultIs("h0,;", 0);
        faultIs("h,0;", 0);
        faultIs("h0,0;", 0);
        faultIs("h00;h01;h02;", NONE);
        faultIs("h0;w0,:;", 3);
        faultIs("h0;w0,/;", 3);
        faultIs("h0;w0,5:;", 3);
        faultIs("h000;", 0);
        faultIs("h0;v", 3);
        faultIs("h0; h0;", 3);
        faultIs("H0;", 0);
        faultIs("h0;x0;", 3);
        faultIs("h-1;", 0);
        faultIs("h0;h0;v0,1", 6);
        faultIs("h0;h0;v0;1;", 6);
        faultIs("h0;h0;v0,1,0;", 6);
        faultIs("h0;h0;v0,1;g0,1,0,1,0;", 11);
        faultIs("h0;h0;v00,01;", NONE);
    }

    private static void faultOfHills() {
        faultIs("h0;h1;h2;h3;", NONE);
        faultIs("h4;", 0);
        faultIs("h10;", 0);
        faultIs("h0;h2;h1;h2;", 9);
        faultIs("h0;h0;h0;h0;h0;h0;h0;h0;h0;h0;", NONE);
        faultIs("h0;h0;h0;h0;h0;h0;h0;h0;h0;h0;h0;", 30);
        faultIs("h0;w0,5;h0;", 8);
    }

    private static void faultOfItems() {
        faultIs("v0,1;", 0);
        faultIs("h0;h0;v0,0;", 6);
        faultIs("h0;h0;v0,2;", 6);
        faultIs("h0;h0;v0,1;v0,1;", 11);
        faultIs("h0;h3;h2;v0,1;v1,2;v2,0;", NONE);
        faultIs("h0;r0,1,1;", NONE);
        faultIs("h0;r0,9,9;", NONE);
        faultIs("h0;r0,0,1;", 3);
        faultIs("h0;r0,1,0;", 3);
        faultIs("h0;r0,10,1;", 3);
        faultIs("h0;r0,1,10;", 3);
        faultIs("h0;r0,1;", 3);
        faultIs("h0;r1,1,1;", 3);
        faultIs("h0;h0;r0,1,1;r1,1,1;r0,1,1;", 20);
        faultIs("h0;w0,0;", NONE);
        faultIs("h0;w0,99;", NONE);
        faultIs("h0;w0,100;", 3);
        faultIs("h0;w1,9;", 3);
        faultIs("h0;w0,9;w0,9;", 8);
        faultIs("h0;s0,0,59;s0,0,59;s0,5,5;", NONE);
        faultIs("h0;s0,0,60;", 3);
        faultIs("h0;s0,5,4;", 3);
        faultIs("h0;s1,0,0;", 3);
        faultIs("h0;s0,0;", 3);
        faultIs("h0;h0;v0,1;g0,1,0,59;g1,0,5,5;", NONE);
        faultIs("h0;h0;v0,1;g0,1,5,60;", 11);
        faultIs("h0;h0;v0,1;g0,1,5,4;", 11);
        faultIs("h0;h0;v0,1;g0,0,0,0;", 11);
        faultIs("h0;h0;v0,1;g0,2,0,0;", 11);
        faultIs("h0;h0;g0,1,0,0;v0,1;", 6);
        faultIs("h0;h0;v0,1;g0,1,0;", 11);
        faultIs("h0;h1;l0,0,59;l1,3,3;l0,4,4;", NONE);
        faultIs("h2;l0,0,0;", 3);
        faultIs("h3;l0,0,0;", 3);
        faultIs("h0;l0,1,60;", 3);
        faultIs("h0;l0,4,3;", 3);
        faultIs("h0;l1,0,0;", 3);
        faultIs("h2;h3;s0,1,2;s1,1,2;w0,3;w1,3;r0,1,1;r1,1,1;", NONE);
    }

    private static void lay() {
        LyingBeacons x = laid(DIAMOND);
        due("5: ship", x.ship(1, 0, 0), 0);
        x.log(1, 7);
        put(x, "h4;");
        due("5: with a fault", x.lay(), NO);
        due("5: nothing changed", x.count(0), 4);
        due("5: logs stay", x.count(6), 1);
        due("5: the ship stays", x.seen(1), 1);
        put(x, DIAMOND);
        due("5: again", x.lay(), 4);
        due("5: logs go", x.count(6), 0);
        due("5: the ship goes", x.seen(1), 0);
        due("5: the text stays", x.count(5), DIAMOND.length());
        x.wipe();
        due("5: an empty one", x.lay(), 0);
        due("5: no hill", x.hill(0, 0), BAD);
    }

    private static void hill() {
        LyingBeacons x = laid("h1;h3;h2;v0,1;v2,0;r1,3,4;w2,7;");
        int[][] want = {{1, 6, 1, 1, 99}, {3, 1, 3, 4, 99}, {2, 1, 1, 1, 7}};
        for (int h = 0; h < 3; h++) {
            for (int what = 0; what < 5; what++) {
                due("6: hill(" + h + ", " + what + ")", x.hill(h, what), want[h][what]);
            }
        }
        due("6: hill 3", x.hill(3, 0), BAD);
        due("6: hill -1", x.hill(-1, 0), BAD);
        due("6: hill 10", x.hill(10, 0), BAD);
        due("6: what 5", x.hill(0, 5), BAD);
        due("6: what -1", x.hill(0, -1), BAD);
    }

    private static void ship() {
        LyingBeacons x = laid("h1;h0;h1;h2;v0,1;");
        due("7: both", x.ship(5, 0, 59), 0);
        due("7: seen from minute 1", x.seen(1), 7 & ~2);
        due("7: a relay", x.ship(2, 0, 0), BAD);
        due("7: the ear", x.ship(8, 0, 0), BAD);
        due("7: no hill", x.ship(16, 0, 0), BAD);
        due("7: negative", x.ship(-1, 0, 0), BAD);
        due("7: a -1", x.ship(1, -1, 0), BAD);
        due("7: b 60", x.ship(1, 0, 60), BAD);
        due("7: a above b", x.ship(1, 5, 4), BAD);
        due("7: none, a above b", x.ship(0, 5, 4), BAD);
        due("7: nothing changed", x.seen(1), 5);
        due("7: another one in its place", x.ship(4, 9, 9), 0);
        due("7: ahead", x.seen(9), 0);
        due("7: behind", x.seen(10), 4);
        due("7: none", x.ship(0, 0, 0), 0);
        due("7: nobody", x.seen(59), 0);
    }

    private static void burnsAndSeen() {
        LyingBeacons x = laid(DIAMOND);
        x.ship(1, 57, 58);
        due("8: burns", x.burns(0, 58), 1);
        due("8: not yet", x.burns(0, 57), 0);
        due("8: the relay", x.burns(1, 59), 1);
        due("8: the ear", x.burns(3, 59), 0);
        due("8: hill 4", x.burns(4, 0), BAD);
        due("8: hill -1", x.burns(-1, 0), BAD);
        due("8: minute 60", x.burns(0, 60), BAD);
        due("8: minute -1", x.burns(0, -1), BAD);
        due("9: seen", x.seen(59), 7);
        due("9: minute 60", x.seen(60), BAD);
        due("9: minute -1", x.seen(-1), BAD);
        x.ship(1, 59, 59);
        due("9: too late to burn", x.seen(59), 0);
    }

    private static void nightByRules() {
        LyingBeacons x = laid("h1;h0;h2;v0,1;v1,2;r1,1,3;");
        x.ship(1, 4, 4);
        due("8: three minutes on end, not yet", x.burns(1, 7), 0);
        due("8: three minutes on end", x.burns(1, 8), 1);
        due("11: heard", x.alarm(), 8);
        x = laid("h1;h0;v0,1;r1,1,3;g0,1,6,6;");
        x.ship(1, 4, 4);
        due("8: mist breaks the minutes", x.burns(1, 9), 0);
        due("8: three behind the mist", x.burns(1, 10), 1);
        x = laid("h1;h0;v0,1;s0,3,6;");
        x.ship(1, 0, 5);
        due("8: ahead of sleep", x.seen(2), 3);
        due("8: asleep", x.burns(0, 3), 0);
        due("8: its neighbour goes on", x.burns(1, 3), 1);
        due("8: awake, roused by its rule", x.burns(0, 7), 1);
        x = laid("h1;s0,3,6;");
        x.ship(1, 6, 6);
        due("8: a ship in the minute ahead counts asleep", x.burns(0, 7), 1);
        x.ship(1, 2, 5);
        due("8: slept through", x.seen(7), 0);
        x = laid("h1;h3;h0;v0,1;v1,2;");
        x.ship(1, 0, 0);
        due("8: a spare never burns", x.seen(59), 1);
        x = laid("h1;h0;h1;h0;v0,1;v1,2;v1,3;r1,2,1;");
        x.ship(1, 0, 0);
        due("8: one of two", x.seen(59), 1);
        x.ship(5, 0, 0);
        due("8: two of two", x.seen(2), 7);
        due("8: and one more", x.seen(3), 15);
    }

    private static void nightOfLiars() {
        LyingBeacons x = laid("h0;h0;h2;v0,1;v1,2;l0,0,0;l0,5,6;s0,0,59;");
        due("8: in minute 0, asleep", x.seen(0), 1);
        due("8: its neighbour behind it", x.seen(1), 2);
        due("8: a liar obeys no rule", x.seen(4), 2);
        due("8: again", x.seen(5), 3);
        due("8: ended", x.seen(7), 2);
        x = laid("h1;l0,9,9;");
        x.ship(1, 0, 59);
        due("8: a liar sees no ship", x.seen(8), 0);
        due("8: as told", x.seen(9), 1);
        x = laid("h0;h0;v0,1;l0,2,4;r1,1,3;");
        due("8: three minutes of a liar", x.seen(4), 1);
        due("8: held up to the minute ahead", x.seen(5), 2);
    }

    private static void minutesToldTwice() {
        LyingBeacons x = laid("h1;h0;v0,1;s0,3,6;s0,5,9;");
        x.ship(1, 0, 0);
        due("8: asleep by two items", x.seen(6), 2);
        due("8: asleep by the second", x.seen(9), 2);
        x = laid("h0;l0,3,6;l0,5,9;");
        due("8: a lie of two items", x.seen(6), 1);
        due("8: ten minutes less three", x.wood(0), 99 - 7);
        x = laid("h1;h0;v0,1;g0,1,0,6;g1,0,5,9;");
        x.ship(1, 0, 0);
        due("8: mist of two items, both ways", x.seen(10), 1);
        due("8: behind it", x.seen(11), 3);
    }

    private static void wood() {
        LyingBeacons x = laid("h1;h0;h2;h3;v0,1;v1,2;w0,3;w2,5;w3,6;");
        x.ship(1, 0, 59);
        due("10: burnt out", x.wood(0), 0);
        due("8: its last minute", x.burns(0, 3), 1);
        due("8: no wood", x.burns(0, 4), 0);
        due("10: of the relay", x.wood(1), 99 - 58);
        due("10: of the ear", x.wood(2), 5);
        due("10: of the spare", x.wood(3), 6);
        due("10: hill 4", x.wood(4), BAD);
        due("10: hill -1", x.wood(-1), BAD);
        x = laid("h0;w0,2;l0,1,1;l0,5,9;");
        due("10: a liar's", x.wood(0), 0);
        due("8: a liar's last", x.seen(5), 1);
        due("8: a liar without", x.seen(6), 0);
        x = laid("h1;w0,0;");
        x.ship(1, 0, 59);
        due("8: none at all", x.seen(1), 0);
    }

    private static void alarm() {
        LyingBeacons x = laid("h1;h2;v0,1;r1,1,3;");
        due("11: no ship", x.alarm(), NONE);
        x.ship(1, 2, 2);
        due("11: the last of three minutes", x.alarm(), 5);
        x.ship(1, 56, 56);
        due("11: in the last minute", x.alarm(), 59);
        x.ship(1, 57, 57);
        due("11: too late", x.alarm(), NONE);
        due("11: no ear", laid("h1;").alarm(), NO);
        x = laid("h1;h2;v0,1;r1,1,3;s1,0,7;");
        x.ship(1, 2, 2);
        due("11: asleep up to 7", x.alarm(), 8);
        x = laid("h0;h2;v0,1;l0,0,0;");
        due("11: in minute 0", x.alarm(), 0);
        x = laid("h1;h2;v0,1;r1,1,2;g0,1,4,5;");
        x.ship(1, 2, 2);
        due("11: mist", x.alarm(), 7);
        x = laid("h0;h0;h2;v0,2;v1,2;r2,2,1;l0,0,4;l1,4,9;");
        due("11: two at once", x.alarm(), 4);
        x = laid("h0;h0;h2;v0,2;v1,2;r2,2,2;l0,0,4;l1,4,9;");
        due("11: not two minutes of both", x.alarm(), NONE);
    }

    private static void falseBy() {
        LyingBeacons x = laid("h1;h0;h0;h2;h3;v0,1;v1,2;v2,3;v0,3;v3,4;r3,2,5;r1,2,1;s0,0,59;w2,0;");
        due("12: nobody", x.falseBy(0), 0);
        due("12: one", x.falseBy(1), 0);
        due("12: two", x.falseBy(5), 1);
        due("12: by a relay's rule", laid("h0;h0;h2;v0,1;v1,2;").falseBy(1), 1);
        due("12: a head by its rule", laid("h0;h1;h2;v0,1;v1,2;").falseBy(1), 1);
        due("12: not through a spare", laid("h0;h3;h2;v0,1;v1,2;").falseBy(1), 0);
        due("12: not through the ear", laid("h0;h2;h0;v0,1;v1,2;r1,2,1;").falseBy(1), 0);
        due("12: the ear", x.falseBy(8), BAD);
        due("12: a spare", x.falseBy(16), BAD);
        due("12: no hill", x.falseBy(32), BAD);
        due("12: negative", x.falseBy(-1), BAD);
        due("12: no ear", laid("h0;").falseBy(1), NO);
        due("12: bad ahead of no", laid("h0;").falseBy(2), BAD);
    }

    private static void falseFor() {
        LyingBeacons x = laid("h1;h0;h0;h2;h3;v0,1;v1,2;v2,3;v0,3;v3,4;r3,2,5;r1,2,1;r2,2,1;r0,2,1;");
        due("13: of 1", x.falseFor(1, 0), 0);
        due("13: least of 1", x.falseFor(1, 1), NONE);
        due("13: ring of 1", x.falseFor(1, 2), NONE);
        due("13: of 2", x.falseFor(2, 0), 1);
        due("13: least of 2", x.falseFor(2, 1), 5);
        due("13: ring of 2", x.falseFor(2, 2), 7);
        due("13: of 3", x.falseFor(3, 0), 1);
        due("13: of 4, more than there are", x.falseFor(4, 0), 0);
        due("13: of 9", x.falseFor(9, 1), NONE);
        due("13: of 0", x.falseFor(0, 0), 0);
        due("13: b 10", x.falseFor(10, 0), BAD);
        due("13: b -1", x.falseFor(-1, 0), BAD);
        due("13: what 3", x.falseFor(0, 3), BAD);
        due("13: what -1", x.falseFor(0, -1), BAD);
        due("13: no ear", laid("h0;").falseFor(1, 0), NO);
        due("13: bad ahead of no", laid("h0;").falseFor(1, 3), BAD);
        x = laid("h0;h0;h0;h2;v1,3;v0,2;");
        due("13: some of 1", x.falseFor(1, 0), 1);
        due("13: their least", x.falseFor(1, 1), 2);
        due("13: its ring", x.falseFor(1, 2), 2);
        due("13: of 2 that are more than needed", x.falseFor(2, 0), 2);
        due("13: the ring of them", x.falseFor(2, 2), 7);
    }

    private static void trueBy() {
        LyingBeacons x = laid("h1;h0;h1;h2;h3;v0,1;v1,3;v0,2;v2,3;v0,4;v4,3;r1,1,3;r3,1,2;r2,1,5;");
        due("14: by the relay", x.trueBy(0, 4), 5);
        due("14: all", x.trueBy(0, 0), 5);
        due("14: by the other head", x.trueBy(0, 2), 7);
        due("14: neither", x.trueBy(0, 6), NONE);
        due("14: the head beside the ear", x.trueBy(2, 0), 2);
        due("14: it itself", x.trueBy(0, 1), BAD);
        due("14: the ear silent", x.trueBy(0, 8), BAD);
        due("14: a spare silent", x.trueBy(0, 16), BAD);
        due("14: negative", x.trueBy(0, -1), BAD);
        due("14: a relay", x.trueBy(1, 0), BAD);
        due("14: no hill", x.trueBy(5, 0), BAD);
        due("14: hill -1", x.trueBy(-1, 0), BAD);
        due("14: hill 32", x.trueBy(32, 0), BAD);
        due("14: no ear", laid("h1;").trueBy(0, 0), NO);
        due("14: bad ahead of no", laid("h0;").trueBy(0, 0), BAD);
        due("14: wood, sleep, mist and liars aside",
            laid("h1;h0;h2;v0,1;v1,2;w0,0;s1,0,59;g1,2,0,59;l0,40,41;").trueBy(0, 0), 2);
        due("14: nine waits of nine minutes", laid("h1;h0;h0;h0;h0;h0;h0;h0;h0;h2;v0,1;v1,2;v2,3;v3,4;"
            + "v4,5;v5,6;v6,7;v7,8;v8,9;r1,1,9;r2,1,9;r3,1,9;r4,1,9;r5,1,9;r6,1,9;r7,1,9;r8,1,9;r9,1,9;")
            .trueBy(0, 0), 81);
    }

    private static void late() {
        LyingBeacons x = laid("h1;h0;h1;h2;v0,1;v1,3;v0,2;v2,3;r1,1,3;r3,1,2;r2,1,5;");
        due("15: nobody", x.late(0, 0), 5);
        due("15: one silent", x.late(1, 0), 7);
        due("15: two silent", x.late(2, 0), NONE);
        due("15: one sight gone", x.late(0, 1), 7);
        due("15: one of each", x.late(1, 1), NONE);
        due("15: as many as there are", laid("h1;h2;v0,1;").late(9, 0), 1);
        due("15: a spare's sight gone", laid("h1;h3;h2;v0,1;v1,2;").late(0, 1), NONE);
        due("15: no head", laid("h0;h2;v0,1;").late(0, 0), NONE);
        due("15: no sight", laid("h1;h2;").late(0, 1), NONE);
        due("15: b 10", x.late(10, 0), BAD);
        due("15: b -1", x.late(-1, 0), BAD);
        due("15: q 2", x.late(0, 2), BAD);
        due("15: q -1", x.late(0, -1), BAD);
        due("15: no ear", laid("h1;").late(0, 0), NO);
        due("15: other heads silent, too", laid("h1;h1;h2;v0,1;v1,2;").late(1, 0), NONE);
    }

    /** A head, four relays that it sees, an ear that sees these and wants so many of them. */
    private static String fan(int wanted) {
        return "h1;h0;h0;h0;h0;h2;v0,1;v0,2;v0,3;v0,4;v1,5;v2,5;v3,5;v4,5;r0,9,1;r5," + wanted + ",1;";
    }

    private static void bears() {
        due("16: nothing at all", laid("h1;h2;").bears(), NONE);
        due("16: bears 0", laid("h1;h2;v0,1;").bears(), 0);
        due("16: a false head fools", laid(fan(2)).bears(), 0);
        LyingBeacons x = laid("h1;h1;h1;h1;h2;v0,1;v0,2;v0,3;v1,2;v1,3;v2,3;v0,4;v1,4;v2,4;v3,4;r4,4,1;");
        due("16: relays that believe anyone", x.bears(), 0);
        due("16: no ear", laid("h1;").bears(), NO);
        due("16: no head", laid("h0;h2;v0,1;").bears(), NONE);
    }

    private static void bestRule() {
        LyingBeacons x = laid("h1;h0;h0;h2;v0,1;v0,2;v1,2;v1,3;v2,3;r1,9,9;r3,3,3;");
        due("17: rules as they are", x.bears(), NONE);
        due("17: best", x.bestRule(0, 0), 11);
        due("17: its minute", x.bestRule(0, 1), 2);
        due("17: none", x.bestRule(1, 0), NONE);
        due("17: none", x.bestRule(1, 1), NONE);
        due("17: rules stay", x.hill(1, 2), 9);
        due("17: b 10", x.bestRule(10, 0), BAD);
        due("17: b -1", x.bestRule(-1, 0), BAD);
        due("17: what 2", x.bestRule(0, 2), BAD);
        due("17: what -1", x.bestRule(0, -1), BAD);
        due("17: no ear", laid("h1;").bestRule(0, 0), NO);
    }

    private static void added() {
        LyingBeacons x = laid("h1;h3;h3;h3;h2;v0,1;v1,4;v0,2;v2,3;v3,4;r1,2,1;");
        due("18: two of three", x.added(0), 12);
        due("18: as manned before", x.added(0), 12);
        due("18: kinds stay", x.hill(2, 0), 3);
        due("18: of several the least", laid("h1;h3;h3;h2;v0,1;v0,2;v1,3;v2,3;").added(0), 2);
        due("18: fewest ahead of least", laid("h1;h3;h3;h3;h2;v0,1;v1,2;v2,4;v0,3;v3,4;").added(0), 8);
        due("18: none needed", laid("h1;h3;h2;v0,2;").added(0), 0);
        due("18: none", x.added(1), NONE);
        due("18: b 10", x.added(10), BAD);
        due("18: b -1", x.added(-1), BAD);
        due("18: no ear", laid("h1;").added(0), NO);
    }

    private static void log() {
        LyingBeacons x = laid("h1;h3;h2;");
        due("19: first", x.log(0, 0), -1);
        due("19: then", x.log(0, 60), 0);
        due("19: then", x.log(0, -1), 60);
        due("19: not written again", x.count(6), 0);
        due("19: a spare", x.log(1, 59), -1);
        due("19: the ear", x.log(2, 59), -1);
        due("19: minute 61", x.log(0, 61), -100);
        due("19: minute -2", x.log(0, -2), -100);
        due("19: hill 3", x.log(3, 0), -100);
        due("19: hill -1", x.log(-1, 0), -100);
        due("19: nothing changed", x.count(6), 2);
    }

    private static void logsOfCause() {
        LyingBeacons x = laid("h0;h0;h0;h3;h2;h1;v0,1;v0,2;v0,3;v0,4;v0,5;r0,2,3;");
        due("20: nothing written", x.logs(0) + x.logs(1), 0);
        x.log(0, 10);
        due("20: may be", x.logs(1), 1);
        x.log(3, 0);
        x.log(4, 0);
        x.log(1, 60);
        due("20: by two that are not written", x.logs(1), 1);
        x.log(2, 8);
        due("20: a minute too late, sure, and relay 2 has none by relay 0", x.logs(0), 5);
        due("20: not may be", x.logs(1), 0);
        x.log(2, 7);
        due("20: may be by the head", x.logs(1), 1);
        x.log(5, 7);
        due("20: cleared", x.logs(1), 0);
        due("20: relay 2 has cause by none, sure", x.logs(0), 4);
        x.log(0, 2);
        due("20: earlier than its minutes", x.logs(0), 1);
        x.log(0, 60);
        due("20: never burnt", x.logs(0), 4);
        due("20: what 4", x.logs(4), BAD);
        due("20: what -1", x.logs(-1), BAD);
        x = laid("h0;h0;v0,1;");
        x.log(0, 0);
        due("20: in minute 0, a neighbour not written", x.logs(0), 1);
        x.log(0, 1);
        due("20: in minute 1, a neighbour not written", x.logs(1), 1);
    }

    private static void logsAsked() {
        LyingBeacons x = laid("h0;h0;h0;h1;h3;v0,2;v1,2;v0,3;v0,4;v1,4;");
        due("20: nobody may be", x.logs(2), NONE);
        x.log(0, 5);
        due("20: the lowest of several", x.logs(2), 2);
        x.log(1, 5);
        due("20: the most", x.logs(2), 2);
        x.log(2, 60);
        due("20: a head", x.logs(2), 3);
        x.log(3, 60);
        due("20: not a spare", x.logs(2), NONE);
    }

    private static void logsTooSoon() {
        LyingBeacons x = laid("h1;h1;h0;h0;h0;v0,2;v2,3;r2,1,3;");
        x.log(2, 3);
        x.log(4, 59);
        due("20: no head written", x.logs(3), 0);
        x.log(0, 60);
        due("20: a head that never burnt", x.logs(3), 0);
        x.log(1, 1);
        due("20: too soon, and one that never burns", x.logs(3), 4 | 16);
        x.log(2, 4);
        due("20: just in time", x.logs(3), 16);
        x.log(0, 0);
        x.log(2, 3);
        due("20: by the earliest head", x.logs(3), 16);
        x.log(3, 3);
        due("20: the next relay", x.logs(3), 16 | 8);
        x.log(4, 60);
        x.log(3, 4);
        due("20: in time", x.logs(3), 0);
        x = laid("h1;h3;h0;v0,1;v1,2;");
        x.log(0, 0);
        x.log(1, 0);
        x.log(2, 50);
        due("20: not through a spare", x.logs(3), 4);
    }

    private static void sign() {
        LyingBeacons x = new LyingBeacons();
        due("21: first", x.sign(5, 11, 3), 0);
        due("21: then", x.sign(5, 11, 0), 3);
        due("21: sign 6", x.sign(6, 0, 0), BAD);
        due("21: sign -1", x.sign(-1, 0, 0), BAD);
        due("21: minute 12", x.sign(0, 12, 0), BAD);
        due("21: minute -1", x.sign(0, -1, 0), BAD);
        due("21: fires 4", x.sign(0, 0, 4), BAD);
        due("21: fires -1", x.sign(0, 0, -1), BAD);
        x.sign(0, 0, 2);
        x.lay();
        due("21: lay leaves it", x.sign(0, 0, 2), 2);
    }

    private static void near() {
        LyingBeacons x = new LyingBeacons();
        due("22: both empty", x.near(0, 1), 0);
        x.sign(0, 0, 3);
        due("22: one fire", x.near(0, 1), 1);
        x.sign(1, 3, 3);
        due("22: moved by three", x.near(0, 1), 0);
        due("22: moved back", x.near(1, 0), 0);
        x.sign(1, 3, 0);
        x.sign(1, 4, 3);
        due("22: four are too many", x.near(0, 1), 2);
        x.sign(1, 4, 0);
        x.sign(1, 0, 2);
        due("22: unlike fires", x.near(0, 1), 2);
        for (int minute = 0; minute < 12; minute++) {
            x.sign(2, minute, 1);
            x.sign(3, minute, 2);
        }
        due("22: both hidden by moving", x.near(2, 3), 24);
        due("22: alike", x.near(4, 4), BAD);
        due("22: sign 6", x.near(0, 6), BAD);
        due("22: sign -1", x.near(-1, 0), BAD);
    }

    private static void watch() {
        LyingBeacons x = new LyingBeacons();
        due("23: nobody there", x.watch(12, -1, -1, -1, -1), 0);
        due("23: no hours", x.watch(12, 0, 0, 0, 0), 0);
        due("23: one man every other hour", x.watch(12, -1, -1, -1, 12), 6);
        due("23: two", x.watch(12, 6, -1, 6, -1), 12);
        due("23: one ends", x.watch(12, 1, 12, -1, -1), 7);
        due("23: one hour", x.watch(1, 12, 12, 12, 12), 1);
        due("23: three", x.watch(9, 3, 3, 3, 0), 9);
        due("23: t 0", x.watch(0, 1, 1, 1, 1), BAD);
        due("23: t 13", x.watch(13, 1, 1, 1, 1), BAD);
        due("23: a -2", x.watch(1, -2, 1, 1, 1), BAD);
        due("23: b 13", x.watch(1, 1, 13, 1, 1), BAD);
        due("23: c -2", x.watch(1, 1, 1, -2, 1), BAD);
        due("23: d 13", x.watch(1, 1, 1, 1, 13), BAD);
    }

    private static void cost() {
        LyingBeacons x = new LyingBeacons();
        due("24: in vain", x.cost(0, 1000), 100);
        due("24: not sent", x.cost(1, 0), 1000);
        due("24: sent", x.cost(2, 7), 100);
        due("24: then", x.cost(2, 8), 7);
        due("24: what 3", x.cost(3, 0), BAD);
        due("24: what -1", x.cost(-1, 0), BAD);
        due("24: v 1001", x.cost(0, 1001), BAD);
        due("24: v -1", x.cost(0, -1), BAD);
        due("24: nothing changed", x.cost(0, 1), 1000);
    }

    private static void sends() {
        LyingBeacons x = new LyingBeacons();
        due("25: no more than", x.sends(8, 0), 1);
        due("25: more than", x.sends(9, 0), 0);
        due("25: true nights", x.sends(100, 12), 1);
        due("25: true nights", x.sends(100, 10), 0);
        due("25: f 101", x.sends(101, 0), BAD);
        due("25: f -1", x.sends(-1, 0), BAD);
        due("25: t 101", x.sends(0, 101), BAD);
        due("25: t -1", x.sends(0, -1), BAD);
        x.cost(2, 1000);
        due("25: sending costs as much", x.sends(0, 50), 0);
        x.cost(0, 0);
        due("25: in vain for nothing", x.sends(100, 50), 1);
    }

    private static void unbelieved() {
        LyingBeacons x = new LyingBeacons();
        due("26: at once", x.unbelieved(9, 0), 0);
        due("26: one more", x.unbelieved(8, 0), 1);
        x.cost(2, 0);
        x.cost(0, 1);
        due("26: 1000", x.unbelieved(0, 0), 1000);
        due("26: above 1000", x.unbelieved(0, 1), NONE);
        due("26: fewer by what was", x.unbelieved(1, 0), 999);
        x.cost(0, 0);
        due("26: never", x.unbelieved(0, 0), NONE);
        due("26: f 101", x.unbelieved(101, 0), BAD);
        due("26: f -1", x.unbelieved(-1, 0), BAD);
        due("26: t 101", x.unbelieved(0, 101), BAD);
        due("26: t -1", x.unbelieved(0, -1), BAD);
    }

    private static void keepAndBack() {
        LyingBeacons x = laid("h1;h0;h2;v0,1;v1,2;r1,1,2;w1,9;s2,0,3;g0,1,20,21;l1,30,31;");
        due("28: nothing kept", x.back(), NO);
        x.ship(1, 0, 0);
        x.log(0, 4);
        x.cost(0, 5);
        x.sign(0, 0, 1);
        int alarm = x.alarm();
        int seen = x.seen(31);
        due("27: one", x.keep(), 1);
        x.log(0, 5);
        x.ship(0, 0, 0);
        due("27: two", x.keep(), 2);
        due("27: three", x.keep(), FULL);
        due("29: kept", x.count(7), 2);
        put(x, "h2;h1;");
        x.lay();
        x.cost(0, 6);
        x.sign(0, 0, 2);
        due("28: the last", x.back(), 1);
        due("28: no ship", x.seen(1), 0);
        due("28: its log", x.log(0, 9), 5);
        due("28: the first", x.back(), 0);
        due("28: its log", x.log(0, 9), 4);
        due("28: alarm", x.alarm(), alarm);
        due("28: seen", x.seen(31), seen);
        due("28: wood", x.hill(1, 4), 9);
        due("28: rule", x.hill(1, 3), 2);
        due("28: the text is not kept", x.count(5), 6);
        due("28: costs are not kept", x.cost(0, 6), 6);
        due("28: signs are not kept", x.sign(0, 0, 2), 2);
        due("28: no more", x.back(), NO);
        due("27: again", x.keep(), 1);
    }

    private static void count() {
        LyingBeacons x = laid("h1;h1;h0;h3;h2;v0,1;v0,2;v3,4;l0,1,2;l0,5,6;l2,1,1;");
        x.log(0, 60);
        x.log(1, 0);
        x.keep();
        int[] want = {5, 3, 2, 1, 2, 51, 2, 1};
        for (int what = 0; what < want.length; what++) {
            due("29: count(" + what + ")", x.count(what), want[what]);
        }
        due("29: what 8", x.count(8), BAD);
        due("29: what -1", x.count(-1), BAD);
    }
}
