/**
 * The sentences on WATCH, KING and what is KEPT that name a boundary case, a test each: 'Terms', part 3, from
 * WATCH on, and promises 23 to 29. What a test quotes is the sentence that it would show broken.
 */
public final class KingBoundsTest extends Bench {
    public static void main(String[] args) {
        watchIsOverOneToTwelveHours();
        menHaveZeroToTwelveHoursOrAreNotThere();
        watchByNobody();
        nobodyIsAwakeTwoHoursOnEnd();
        theManWithMostHoursIsAwake();

        costsAreZeroToThousand();
        costsAreThree();
        costsAtFirst();
        nightsAreZeroToHundred();
        sendsIfNoMore();
        sendsAtTheGreatestCosts();
        unbelievedIsForNightsOfZeroToHundred();
        unbelievedFromNoneMore();
        unbelievedUpToThousandMore();
        unbelievedNone();

        twoAreKeptAtMost();
        nothingIsLeftToComeBack();
        theLastKeptComesBack();
        laidShipAndLogsAreKept();
        textSignsAndCostsAreNotKept();
        anEmptyOneIsKept();
        countTellsEightThings();
        countsFromNoneToAll();
        theLastOfManyCallsIsAnswered();
        end();
    }

    /** Promise 23: "WATCH over t hours (1 to 12) .. BAD." */
    private static void watchIsOverOneToTwelveHours() {
        LyingBeacons x = new LyingBeacons();
        for (int t = 1; t <= 12; t++) {
            due("23: t " + t, x.watch(t, 12, 12, 12, 12), t);
        }
        for (int t : new int[] {LEAST, -1, 0, 13, 256, GREATEST}) {
            due("23: t " + t, x.watch(t, 12, 12, 12, 12), BAD);
            due("23: t " + t + ", nobody there", x.watch(t, -1, -1, -1, -1), BAD);
            due("23: t " + t + " and a man of 13", x.watch(t, 13, 12, 12, 12), BAD);
        }
    }

    /** "four men may be awake so many hours (0 to 12) each, or are not there", promise 23: "(.. -1: not there). BAD." */
    private static void menHaveZeroToTwelveHoursOrAreNotThere() {
        LyingBeacons x = new LyingBeacons();
        for (int man = 0; man < 4; man++) {
            for (int hours = -1; hours <= 12; hours++) {
                due("23: man " + man + " alone with " + hours, watchWith(x, man, hours, -1), Math.min(6, Math.max(0, hours)));
                due("23: man " + man + " beside idle ones with " + hours, watchWith(x, man, hours, 0), Math.min(6, Math.max(0, hours)));
            }
            for (int hours : new int[] {LEAST, -2, 13, 256, GREATEST}) {
                due("23: man " + man + " with " + hours, watchWith(x, man, hours, 5), BAD);
            }
        }
    }

    private static int watchWith(LyingBeacons x, int man, int hours, int others) {
        int[] men = {others, others, others, others};
        men[man] = hours;
        return x.watch(12, men[0], men[1], men[2], men[3]);
    }

    /** "if there is none with hours left, nobody". */
    private static void watchByNobody() {
        LyingBeacons x = new LyingBeacons();
        due("23: nobody there", x.watch(12, -1, -1, -1, -1), 0);
        due("23: no hours", x.watch(12, 0, 0, 0, 0), 0);
        due("23: hours end", x.watch(12, 1, 1, 1, 1), 4);
        due("23: hours end just in time", x.watch(4, 1, 1, 1, 1), 4);
        due("23: hours end an hour early", x.watch(5, 1, 1, 1, 1), 4);
        due("23: nothing is left of an earlier watch", x.watch(12, 3, 3, 3, 3), 12);
        due("23: nothing is left of it again", x.watch(12, 3, 3, 3, 3), 12);
    }

    /** "who was not awake in the hour ahead". */
    private static void nobodyIsAwakeTwoHoursOnEnd() {
        LyingBeacons x = new LyingBeacons();
        for (int t = 1; t <= 12; t++) {
            due("23: one man over " + t, x.watch(t, -1, 12, -1, -1), (t + 1) / 2);
            due("23: two men over " + t, x.watch(t, 12, -1, -1, 12), t);
            due("23: one who helps once over " + t, x.watch(t, 12, 1, -1, -1), t <= 3 ? t : 3 + (t - 3) / 2);
        }
    }

    /** "the man with most hours left is awake": not the lowest, nor the one with fewest. */
    private static void theManWithMostHoursIsAwake() {
        LyingBeacons x = new LyingBeacons();
        due("23: the most last", x.watch(6, 1, 1, 1, 3), 6);
        due("23: the most first", x.watch(6, 3, 1, 1, 1), 6);
        due("23: the most between", x.watch(12, 2, 2, 6, 2), 12);
        due("23: one hour too few beside him", x.watch(12, 2, 2, 6, 0), 10);
    }

    /** "costs .. (0 to 1000)", promise 24: "what it was .. BAD." */
    private static void costsAreZeroToThousand() {
        int[] first = {100, 1000, 100};
        for (int what = 0; what <= 2; what++) {
            LyingBeacons x = new LyingBeacons();
            int was = first[what];
            for (int v : new int[] {0, 1, 999, 1000, 0, 1000}) {
                due("24: cost(" + what + ", " + v + ")", x.cost(what, v), was);
                was = v;
            }
            for (int v : new int[] {LEAST, -1000, -1, 1001, 65536, GREATEST}) {
                due("24: cost(" + what + ", " + v + ")", x.cost(what, v), BAD);
            }
            due("24: nothing changed", x.cost(what, 5), 1000);
        }
    }

    /** Promise 24: "what = 0 in vain, 1 not sent when true, 2 sent when true". */
    private static void costsAreThree() {
        LyingBeacons x = new LyingBeacons();
        for (int what : new int[] {LEAST, -1, 3, 256, GREATEST}) {
            due("24: what " + what, x.cost(what, 0), BAD);
            due("24: what " + what + " and v 1001", x.cost(what, 1001), BAD);
        }
        x.cost(0, 1);
        x.cost(1, 2);
        x.cost(2, 3);
        for (int what = 0; what <= 2; what++) {
            due("24: each its own " + what, x.cost(what, 0), what + 1);
        }
    }

    /** Promise 24: "(100, 1000, 100 at first)". */
    private static void costsAtFirst() {
        LyingBeacons x = new LyingBeacons();
        due("24: in vain", x.cost(0, 100), 100);
        due("24: not sent", x.cost(1, 1000), 1000);
        due("24: sent", x.cost(2, 100), 100);
    }

    /** "f were false, t true (0 to 100 each, ..)", promise 25: "BAD." */
    private static void nightsAreZeroToHundred() {
        LyingBeacons x = new LyingBeacons();
        due("25: 0, 0", x.sends(0, 0), 1);
        due("25: 100, 0", x.sends(100, 0), 0);
        due("25: 0, 100", x.sends(0, 100), 1);
        due("25: 100, 100", x.sends(100, 100), 1);
        for (int nights : new int[] {LEAST, -101, -1, 101, 256, GREATEST}) {
            due("25: f " + nights, x.sends(nights, 0), BAD);
            due("25: t " + nights, x.sends(0, nights), BAD);
            due("25: both " + nights, x.sends(nights, nights), BAD);
        }
    }

    private static LyingBeacons king(int inVain, int notSent, int sent) {
        LyingBeacons x = new LyingBeacons();
        x.cost(0, inVain);
        x.cost(1, notSent);
        x.cost(2, sent);
        return x;
    }

    /** "(.. 1 each counted more): he sends, if .. are together no more than ..". */
    private static void sendsIfNoMore() {
        due("25: as much", king(5, 12, 7).sends(0, 0), 1);
        due("25: one more in vain", king(6, 12, 7).sends(0, 0), 0);
        due("25: one more sent", king(5, 12, 8).sends(0, 0), 0);
        due("25: one less not sent", king(5, 11, 7).sends(0, 0), 0);
        due("25: as much by nights", king(10, 11, 1).sends(100, 100), 1);
        due("25: a night fewer", king(10, 11, 1).sends(100, 99), 0);
        due("25: a night fewer each", king(10, 11, 1).sends(99, 99), 1);
        due("25: nothing costs anything", king(0, 0, 0).sends(100, 0), 1);
        due("25: it costs nothing not to send", king(1, 0, 0).sends(0, 100), 0);
    }

    /** "(0 to 1000)": the greatest costs by the most nights. */
    private static void sendsAtTheGreatestCosts() {
        LyingBeacons x = king(1000, 1000, 1000);
        due("25: all 1000", x.sends(100, 100), 0);
        due("25: all 1000", x.sends(0, 100), 0);
        due("26: all 1000", x.unbelieved(100, 100), 0);
        due("25: sent for nothing", king(1000, 1000, 0).sends(100, 100), 1);
        due("25: sent for 1", king(1000, 1000, 1).sends(100, 100), 0);
        due("25: in vain for nothing", king(0, 1000, 1000).sends(100, 100), 1);
        due("25: not sent for 999", king(0, 999, 1000).sends(100, 100), 0);
    }

    /** Promise 26: "UNBELIEVED from f, t on .. BAD." */
    private static void unbelievedIsForNightsOfZeroToHundred() {
        LyingBeacons x = new LyingBeacons();
        due("26: 0, 0", x.unbelieved(0, 0), 9);
        due("26: 100, 0", x.unbelieved(100, 0), 0);
        due("26: 0, 100", x.unbelieved(0, 100), 909);
        due("26: 100, 100", x.unbelieved(100, 100), 809);
        for (int nights : new int[] {LEAST, -101, -1, 101, 256, GREATEST}) {
            due("26: f " + nights, x.unbelieved(nights, 0), BAD);
            due("26: t " + nights, x.unbelieved(0, nights), BAD);
            due("26: both " + nights, x.unbelieved(nights, nights), BAD);
        }
    }

    /** "how many more false NIGHTS make him not send: 0 ..". */
    private static void unbelievedFromNoneMore() {
        LyingBeacons x = new LyingBeacons();
        due("26: the last at which he sends", x.unbelieved(8, 0), 1);
        due("26: the first at which he does not", x.unbelieved(9, 0), 0);
        due("26: at once by costs", king(1, 0, 0).unbelieved(0, 0), 0);
        due("26: at once though false ones cost nothing", king(0, 5, 6).unbelieved(0, 0), 0);
    }

    /** ".. to 1000; none." */
    private static void unbelievedUpToThousandMore() {
        due("26: 999", king(1, 999, 0).unbelieved(0, 0), 999);
        due("26: 1000", king(1, 1000, 0).unbelieved(0, 0), 1000);
        due("26: 1000 behind 100", king(1, 550, 0).unbelieved(100, 1), 1000);
        due("26: 1001 behind 99", king(1, 550, 0).unbelieved(99, 1), NONE);
        due("26: 1001", king(2, 1000, 0).unbelieved(0, 2), NONE);
        due("26: far more", king(1, 1000, 0).unbelieved(0, 100), NONE);
    }

    /** Promise 26: "NONE". */
    private static void unbelievedNone() {
        due("26: false ones cost nothing", king(0, 1000, 0).unbelieved(0, 0), NONE);
        due("26: nothing costs anything", king(0, 0, 0).unbelieved(100, 100), NONE);
        due("26: as much", king(0, 7, 7).unbelieved(100, 0), NONE);
    }

    /** "KEPT are what is LAID, SHIPS, LOGS: 2 at most.", promise 27: "KEPT: how many. FULL." */
    private static void twoAreKeptAtMost() {
        LyingBeacons x = laid("h0;");
        due("27: one", x.keep(), 1);
        x.log(0, 1);
        due("27: two", x.keep(), 2);
        x.log(0, 2);
        due("27: full", x.keep(), FULL);
        due("27: full again", x.keep(), FULL);
        due("29: kept", x.count(7), 2);
        due("28: one is left", x.back(), 1);
        due("28: the second as it was", x.log(0, 3), 1);
        due("27: room for one", x.keep(), 2);
        due("27: full again", x.keep(), FULL);
        due("28: one is left", x.back(), 1);
        due("28: the new second", x.log(0, 0), 3);
        due("28: none is left", x.back(), 0);
        due("28: the first as it was", x.log(0, 0), -1);
    }

    /** Promise 28: "NO." */
    private static void nothingIsLeftToComeBack() {
        LyingBeacons x = laid("h1;");
        x.ship(1, 0, 0);
        x.log(0, 5);
        due("28: nothing kept", x.back(), NO);
        x.keep();
        due("28: one", x.back(), 0);
        due("28: no more", x.back(), NO);
        due("28: no more again", x.back(), NO);
        due("28: laid as before", x.count(0), 1);
        due("28: ship as before", x.seen(1), 1);
        due("28: log as before", x.log(0, 5), 5);
        due("29: none kept", x.count(7), 0);
    }

    /** Promise 28: "As KEPT last: how many are left." */
    private static void theLastKeptComesBack() {
        LyingBeacons x = laid("h0;");
        x.keep();
        put(x, "h0;h0;");
        x.lay();
        x.keep();
        put(x, "h0;h0;h0;");
        x.lay();
        due("28: one left", x.back(), 1);
        due("28: the last", x.count(0), 2);
        due("28: none left", x.back(), 0);
        due("28: the first", x.count(0), 1);
    }

    /** "KEPT are what is LAID, SHIPS, LOGS". */
    private static void laidShipAndLogsAreKept() {
        LyingBeacons x = laid("h1;h0;h2;h3;v0,1;v1,2;r1,1,2;w1,9;s2,3,5;g1,2,7,8;l1,40,41;");
        x.ship(1, 5, 5);
        x.log(0, 60);
        x.log(3, 0);
        x.keep();
        String before = told(x);
        put(x, "h3;h1;h1;v1,2;r1,2,2;w2,0;");
        x.lay();
        x.ship(6, 0, 59);
        x.log(0, 3);
        due("28: another one now", !told(x).equals(before));
        x.back();
        due("28: as it was", told(x).equals(before));
    }

    private static String told(LyingBeacons x) {
        StringBuilder s = new StringBuilder();
        for (int h = 0; h < 4; h++) {
            for (int what = 0; what <= 4; what++) {
                s.append(x.hill(h, what)).append(' ');
            }
            s.append(x.wood(h)).append(' ');
            int log = x.log(h, 0);
            x.log(h, log);
            s.append(log).append(' ');
        }
        for (int minute = 0; minute < 60; minute++) {
            s.append(x.seen(minute)).append(' ');
        }
        return s.append(x.alarm()).append(' ').append(x.late(0, 0)).toString();
    }

    /** "KEPT are what is LAID, SHIPS, LOGS": and nothing else. */
    private static void textSignsAndCostsAreNotKept() {
        LyingBeacons x = laid("h0;");
        x.sign(0, 0, 1);
        x.cost(0, 1);
        x.keep();
        add(x, "h0;");
        x.sign(0, 0, 2);
        x.cost(0, 2);
        x.back();
        due("28: the text", x.count(5), 6);
        due("28: a sign", x.sign(0, 0, 0), 2);
        due("28: a cost", x.cost(0, 0), 2);
        due("28: the text is laid as it is", x.lay(), 2);
    }

    /** Promise 1 with promise 27: what is LAID at first can be KEPT. */
    private static void anEmptyOneIsKept() {
        LyingBeacons x = new LyingBeacons();
        due("27: empty", x.keep(), 1);
        put(x, "h0;");
        x.lay();
        x.log(0, 0);
        due("28: empty again", x.back(), 0);
        due("29: no hill", x.count(0), 0);
        due("29: no log", x.count(6), 0);
        due("19: no hill", x.log(0, 0), -100);
    }

    /** Promise 29: "How many: 0 HILLS .. 7 KEPT. BAD." */
    private static void countTellsEightThings() {
        LyingBeacons x = laid("h1;h1;h3;h3;h3;h0;h2;v0,1;v0,2;v1,5;v5,6;l0,0,0;l0,5,5;");
        x.log(0, 60);
        x.log(1, 0);
        x.log(2, 59);
        x.log(3, 1);
        x.log(4, 1);
        x.log(4, -1);
        x.keep();
        int[] want = {7, 4, 2, 3, 1, 55, 4, 1};
        for (int what = 0; what <= 7; what++) {
            due("29: what " + what, x.count(what), want[what]);
        }
        for (int what : new int[] {LEAST, -1, 8, 256, GREATEST}) {
            due("29: what " + what, x.count(what), BAD);
        }
    }

    /** Promise 29: each from none to as many as there can be. */
    private static void countsFromNoneToAll() {
        for (int n = 0; n <= 10; n++) {
            due("29: hills", laid("h0;".repeat(n)).count(0), n);
            due("29: heads", laid("h1;".repeat(n) + "h0;".repeat(10 - n)).count(2), n);
            due("29: spares", laid("h3;".repeat(n) + "h0;".repeat(10 - n)).count(3), n);
            due("29: sights", laid("h0;".repeat(n) + allSights(n)).count(1), n * (n - 1) / 2);
            StringBuilder lies = new StringBuilder("h0;".repeat(10));
            LyingBeacons x = laid("h0;".repeat(10));
            for (int h = 0; h < n; h++) {
                lies.append('l').append(h).append(",59,59;");
                x.log(h, 60);
            }
            due("29: liars", laid(lies.toString()).count(4), n);
            due("29: logs", x.count(6), n);
        }
        for (int first = 0; first <= 1; first++) {
            LyingBeacons x = new LyingBeacons();
            x.write(first, 0);
            for (int length = first; length <= 300; length += 2) {
                due("29: bytes", x.count(5), length);
                x.write(2, 0);
            }
            x.write(1, 0);
            due("29: bytes", x.count(5), 300);
        }
    }

    /** "An object is used for at most 512 calls after it has been made". */
    private static void theLastOfManyCallsIsAnswered() {
        LyingBeacons x = new LyingBeacons();
        for (int call = 1; call <= 300; call++) {
            due("2: call " + call, x.write(1, "h1;".charAt((call - 1) % 3)), call);
        }
        due("3: call 301", x.wipe(), 300);
        due("2: call 302", x.write(8, bytes("h1;h2;v0", 0, 8)), 8);
        due("2: call 303", x.write(3, bytes(",1;", 0, 3)), 11);
        for (int call = 304; call <= 510; call++) {
            due("5: call " + call, x.lay(), 2);
        }
        due("7: call 511", x.ship(1, 58, 58), 0);
        due("11: call 512", x.alarm(), 59);
    }
}
