/**
 * The sentences on LOGS and SIGNS that name a boundary case, a test each: 'Terms', part 3, down to NEAR, and
 * promises 19 to 22. What a test quotes is the sentence that it would show broken.
 */
public final class LogsBoundsTest extends Bench {
    private static final String PAIR = "h0;h0;v0,1;";

    public static void main(String[] args) {
        logsAreZeroToSixtyOrNotWritten();
        logsAreOfHills();
        logsAreNotWrittenAtFirst();
        logsTellFourThings();

        causeIsByMMinutesOrEarlier();
        causeIsByKHills();
        noCauseWhereTLessMIsBelowZero();
        whoBurntNeverIsNotInQuestion();
        whoIsNotWrittenIsNotInQuestion();
        onlyRelaysAreInQuestion();
        earAndSparesBurnNever();
        mayBeJustByThoseNotWritten();

        askedIsSeenByMost();
        askedIsTheLowestOfSeveral();
        askedIsRelayOrHead();
        askedIsNotWritten();
        askedNone();

        tooSoonByOneMinute();
        tooSoonByTheEarliestHead();
        tooSoonNoneWithoutHead();
        tooSoonAnyThatNeverBurns();
        tooSoonAreRelaysBelowSixty();

        signsAreZeroToFive();
        signsHaveTwelveMinutes();
        firesAreZeroToThree();
        nearIsOfTwoSigns();
        nearIsFromNoneToAll();
        nearMovesByThreeAtMost();
        nearCountsZeroBeyondTheMinutes();
        nearCountsAMinuteOfOneSign();
        end();
    }

    /** Logs of hills 0, 1, .. */
    private static LyingBeacons logged(String net, int... minutes) {
        LyingBeacons x = laid(net);
        for (int h = 0; h < minutes.length; h++) {
            x.log(h, minutes[h]);
        }
        return x;
    }

    /** Sure, may be, asked, too soon. */
    private static void told(String what, LyingBeacons x, int... want) {
        for (int i = 0; i < want.length; i++) {
            due("20: " + what + ", logs(" + i + ")", x.logs(i), want[i]);
        }
    }

    /** "the minute from which it burnt (0 to 59), 60 never, or not written (-1, ..)", promise 19: "BAD answers -100." */
    private static void logsAreZeroToSixtyOrNotWritten() {
        LyingBeacons x = laid("h0;");
        int was = -1;
        for (int minute : new int[] {0, 1, 58, 59, 60, -1, 60, 0, -1}) {
            due("19: log " + minute, x.log(0, minute), was);
            due("29: written", x.count(6), minute == -1 ? 0 : 1);
            was = minute;
        }
        x.log(0, 7);
        for (int minute : new int[] {LEAST, -100, -2, 61, 64, 99, 256, GREATEST}) {
            due("19: log " + minute, x.log(0, minute), -100);
        }
        due("19: nothing changed", x.log(0, 7), 7);
    }

    /** Promise 19: "LOG of a HILL .. BAD answers -100." */
    private static void logsAreOfHills() {
        for (int n = 1; n <= 10; n++) {
            LyingBeacons x = laid("h0;".repeat(n));
            for (int h = 0; h < n; h++) {
                due("19: hill " + h + " of " + n, x.log(h, h), -1);
            }
            for (int hill : new int[] {LEAST, -1, n, n + 32, 256, GREATEST}) {
                due("19: hill " + hill + " of " + n, x.log(hill, 0), -100);
                due("19: hill " + hill + " of " + n + " and minute 61", x.log(hill, 61), -100);
                due("19: hill " + hill + " of " + n + ", not written", x.log(hill, -1), -100);
            }
            due("29: all written", x.count(6), n);
        }
        LyingBeacons x = laid("h0;h1;h2;h3;");
        for (int h = 0; h < 4; h++) {
            due("19: of each kind", x.log(h, 60), -1);
        }
    }

    /** "not written (-1, at first)". */
    private static void logsAreNotWrittenAtFirst() {
        LyingBeacons x = laid("h0;h1;h2;h3;h0;h0;h0;h0;h0;h0;");
        due("29: none written", x.count(6), 0);
        for (int h = 0; h < 10; h++) {
            due("19: at first", x.log(h, -1), -1);
        }
        told("nothing written", x, 0, 0, NONE, 0);
    }

    /** Promise 20: "SURE .. (what = 0), MAY BE (1) .., ASKED (2; NONE), those too SOON (3). BAD." */
    private static void logsTellFourThings() {
        LyingBeacons x = logged("h1;h0;h0;h0;v0,1;v2,3;r1,1,5;", 8, 9, -1, 9);
        told("one of each", x, 2, 8, 2, 10);
        for (int what : new int[] {LEAST, -1, 4, 256, GREATEST}) {
            due("20: what " + what, x.logs(what), BAD);
        }
    }

    /** "k HILLS that it sees burnt from t less m or earlier." */
    private static void causeIsByMMinutesOrEarlier() {
        for (int m = 1; m <= 9; m++) {
            String net = "h0;h1;v0,1;r0,1," + m + ";";
            for (int t : new int[] {m, m + 1, 30, 59}) {
                told("just early enough for " + m, logged(net, t, t - m), 0, 0);
                told("a minute too late for " + m, logged(net, t, t - m + 1), 1, 0);
                told("in minute 0 for " + m, logged(net, t, 0), 0, 0);
                told("never for " + m, logged(net, t, 60), 1, 0);
            }
        }
    }

    /** "if fewer than k of those it sees are written t - m or earlier, or not written". */
    private static void causeIsByKHills() {
        for (int k = 1; k <= 9; k++) {
            for (int early = 0; early <= 9; early++) {
                String net = hills("0111111111") + star(9) + "r0," + k + ",1;";
                LyingBeacons never = laid(net);
                LyingBeacons open = laid(net);
                never.log(0, 5);
                open.log(0, 5);
                for (int h = 1; h <= 9; h++) {
                    never.log(h, h <= early ? 4 : 60);
                    open.log(h, h <= early ? -1 : 5);
                }
                told(early + " early for " + k, never, early < k ? 1 : 0, 0);
                told(early + " not written for " + k, open, early < k ? 1 : 0, early < k ? 0 : 1);
            }
        }
    }

    /** "(where t - m is 0 or more; ..)", "CAUSE of a HILL that burnt from t on (t 1 or more)". */
    private static void noCauseWhereTLessMIsBelowZero() {
        for (int m = 1; m <= 9; m++) {
            String net = "h0;h1;v0,1;r0,1," + m + ";";
            for (int t = 0; t <= m; t++) {
                told("t " + t + " less " + m + ", not written", logged(net, t, -1), t < m ? 1 : 0, t < m ? 0 : 1);
                told("t " + t + " less " + m + ", burnt in 0", logged(net, t, 0), t < m ? 1 : 0, 0);
            }
        }
        told("in minute 0, nobody seen", logged("h0;", 0), 1, 0);
        told("in minute 0, both", logged(PAIR, 0, 0), 3, 0);
    }

    /** "its LOG written, below 60". */
    private static void whoBurntNeverIsNotInQuestion() {
        told("59 alone", logged("h0;", 59), 1, 0, NONE);
        told("60 alone", logged("h0;", 60), 0, 0, NONE);
        told("59, one not written", logged(PAIR, 59), 0, 1, 1);
        told("60, one not written", logged(PAIR, 60), 0, 0, NONE);
    }

    /** "its LOG written". */
    private static void whoIsNotWrittenIsNotInQuestion() {
        told("not written alone", logged("h0;", -1), 0, 0, NONE);
        told("not written again", logged(PAIR, 5, -1), 0, 1, 1);
        LyingBeacons x = logged(PAIR, 5, 9);
        told("one sure, one cleared", x, 1, 0);
        x.log(0, -1);
        told("one may be", x, 0, 2, 0);
    }

    /** "SURE without CAUSE is a HILL (not a HEAD, not the EAR, MANNED, ..)". */
    private static void onlyRelaysAreInQuestion() {
        told("a relay", logged("h0;", 5), 1, 0);
        told("a head", logged("h1;", 5), 0, 0);
        told("an ear", logged("h2;", 5), 0, 0);
        told("a spare", logged("h3;", 5), 0, 0);
        told("beside one not written", logged("h1;h2;h3;h0;v0,3;v1,3;v2,3;", 5, 5, 5), 0, 0, NONE);
        told("the last of ten", logged(hills("1111111110"), 0, 0, 0, 0, 0, 0, 0, 0, 0, 0), 512, 0);
    }

    /** "the EAR and SPARES burn never, whatever their LOGS". */
    private static void earAndSparesBurnNever() {
        for (String net : new String[] {"h0;h2;v0,1;", "h0;h3;v0,1;"}) {
            for (int log : new int[] {-1, 0, 4, 60}) {
                told("log " + log + " in " + net, logged(net, 5, log), 1, 0, NONE);
            }
        }
    }

    /** "MAY BE, if it has it just by some that are not written; else it is cleared." */
    private static void mayBeJustByThoseNotWritten() {
        String net = "h0;h1;h1;v0,1;v0,2;r0,1,1;";
        told("by one written", logged(net, 5, 4), 0, 0, NONE);
        told("by one not written", logged(net, 5, 60), 0, 1, 2);
        told("by none", logged(net, 5, 60, 5), 1, 0, NONE);
        String both = "h0;h1;h1;v0,1;v0,2;r0,2,1;";
        told("by both not written", logged(both, 5), 0, 1, 1);
        told("by one of each", logged(both, 5, 4), 0, 1, 2);
        told("by both written", logged(both, 5, 4, 4), 0, 0, NONE);
        told("one too late, one not written", logged(both, 5, 5), 1, 0, NONE);
    }

    /** "that is seen by most that MAY BE". */
    private static void askedIsSeenByMost() {
        String net = "h0;h0;h0;h0;h0;v0,3;v0,4;v1,4;";
        told("by two and by one", logged(net, 5, 5, 60), 0, 3, 4);
        told("by one each", logged(net, 5, 60, 60), 0, 1, 3);
    }

    /** "the lowest of several". */
    private static void askedIsTheLowestOfSeveral() {
        LyingBeacons x = laid(hills("0000000001") + star(9));
        x.log(0, 5);
        for (int h = 1; h <= 9; h++) {
            due("20: the lowest", x.logs(2), h);
            x.log(h, 60);
        }
        due("20: nobody left", x.logs(2), NONE);
        x.log(9, -1);
        due("20: the last hill", x.logs(2), 9);
    }

    /** "ASKED should be the RELAY or HEAD". */
    private static void askedIsRelayOrHead() {
        told("neither ear nor spare", logged("h0;h2;h3;h1;h0;v0,1;v0,2;v0,3;v0,4;", 5), 0, 1, 3);
        told("a relay", logged("h0;h2;h3;h0;v0,1;v0,2;v0,3;", 5), 0, 1, 3);
    }

    /** "whose LOG is not written". */
    private static void askedIsNotWritten() {
        told("60 is written", logged("h0;h0;h0;v0,1;v0,2;", 5, 60), 0, 1, 2);
        told("a later one is written", logged("h0;h0;h0;v0,1;v0,2;", 5, 7), 0, 1, 2);
        told("who may be is written", logged("h0;h0;h0;v0,1;v0,2;v1,2;", 5, 5), 0, 3, 2);
    }

    /** "none, if there is none such", promise 20: "(2; NONE)". */
    private static void askedNone() {
        told("nobody may be", logged("h0;h0;h0;v1,2;", 5), 1, 0, NONE);
        told("who is not seen by those", logged("h0;h1;h1;v0,1;", 5, 4), 0, 0, NONE);
        due("20: of no hill", new LyingBeacons().logs(2), NONE);
    }

    /** "too SOON is a RELAY whose LOG .. is earlier than that minute and e less 1". */
    private static void tooSoonByOneMinute() {
        for (int m = 1; m <= 9; m++) {
            for (int e : new int[] {0, 1, 2, 40}) {
                int due = 1 + m + e - 1;
                String net = "h1;h0;v0,1;r1,1," + m + ";";
                due("20: in time, m " + m + ", e " + e, logged(net, e, due).logs(3), 0);
                due("20: later, m " + m + ", e " + e, logged(net, e, due + 1).logs(3), 0);
                due("20: too soon, m " + m + ", e " + e, logged(net, e, due - 1).logs(3), 2);
                due("20: in minute 0, m " + m + ", e " + e, logged(net, e, 0).logs(3), 2);
            }
        }
        due("20: e 58, in time", logged("h1;h0;v0,1;", 58, 59).logs(3), 0);
        due("20: e 58, too soon", logged("h1;h0;v0,1;", 58, 58).logs(3), 2);
        due("20: e 59, too soon", logged("h1;h0;v0,1;", 59, 59).logs(3), 2);
    }

    /** "e being the earliest LOG of a HEAD", "if all HEADS burn from minute 1 on". */
    private static void tooSoonByTheEarliestHead() {
        String net = "h1;h1;h0;v0,2;";
        due("20: the first", logged(net, 5, 9, 6).logs(3), 0);
        due("20: the second", logged(net, 9, 5, 6).logs(3), 0);
        due("20: a minute sooner", logged(net, 9, 5, 5).logs(3), 4);
        due("20: one not written", logged(net, -1, 5, 6).logs(3), 0);
        due("20: one never", logged(net, 60, 5, 5).logs(3), 4);
        due("20: by two heads at once", logged("h1;h1;h0;v0,2;v1,2;r2,2,1;", 0, -1, 1).logs(3), 0);
        due("20: liars told are aside", logged("h1;h0;v0,1;l0,9,9;w0,0;s1,0,59;g0,1,0,59;", 0, 1).logs(3), 0);
    }

    /** "(none below 60: then none is)". */
    private static void tooSoonNoneWithoutHead() {
        due("20: no head", logged("h0;h0;v0,1;", 0, 0).logs(3), 0);
        due("20: a head not written", logged("h1;h0;v0,1;", -1, 0).logs(3), 0);
        due("20: a head never", logged("h1;h0;v0,1;", 60, 0).logs(3), 0);
        due("20: a head in 59", logged("h1;h0;v0,1;", 59, 0).logs(3), 2);
        due("20: heads never and not written", logged("h1;h1;h0;v0,2;", 60, -1, 0).logs(3), 0);
        due("20: an ear and a spare are no heads", logged("h2;h3;h0;v0,2;v1,2;", 0, 0, 0).logs(3), 0);
    }

    /** "each HILL burns from some minute on, or never", "(never: any)". */
    private static void tooSoonAnyThatNeverBurns() {
        due("20: who sees nobody, in 59", logged("h1;h0;", 0, 59).logs(3), 2);
        due("20: who sees nobody, in 0", logged("h1;h0;", 59, 0).logs(3), 2);
        due("20: by one of two", logged("h1;h0;v0,1;r1,2,1;", 0, 59).logs(3), 2);
        due("20: not through a spare", logged("h1;h3;h0;v0,1;v1,2;", 0, 0, 59).logs(3), 4);
        due("20: not through the ear", logged("h1;h2;h0;v0,1;v1,2;", 0, 0, 59).logs(3), 4);
        due("20: the first hill in time", logged("h0;h1;v0,1;", 1, 0).logs(3), 0);
        due("20: the first hill too soon", logged("h0;h1;v0,1;", 0, 0).logs(3), 1);
        due("20: through the first hill", logged("h0;h1;h0;v0,1;v0,2;", 60, 0, 2).logs(3), 0);
        due("20: through another head", logged("h1;h1;h0;v0,1;v1,2;r1,9,9;", 0, -1, 1).logs(3), 0);
        due("20: the farthest of ten", logged(hills("1000000000") + chain(9), 0, 1, 2, 3, 4, 5, 6, 7, 8, 9).logs(3), 0);
        due("20: each of nine too soon", logged(hills("1000000000") + chain(9), 1, 1, 2, 3, 4, 5, 6, 7, 8, 9).logs(3), 1022);
    }

    /** "a RELAY whose LOG (below 60)". */
    private static void tooSoonAreRelaysBelowSixty() {
        due("20: in 59", logged("h1;h0;", 0, 59).logs(3), 2);
        due("20: never", logged("h1;h0;", 0, 60).logs(3), 0);
        due("20: not written", logged("h1;h0;", 0, -1).logs(3), 0);
        due("20: heads, ear, spare", logged("h1;h1;h2;h3;", 9, 0, 0, 0).logs(3), 0);
    }

    /** "SIGNS 0 to 5", promise 21: "BAD." */
    private static void signsAreZeroToFive() {
        LyingBeacons x = new LyingBeacons();
        for (int sign = 0; sign <= 5; sign++) {
            due("21: sign " + sign, x.sign(sign, 11, sign % 3 + 1), 0);
        }
        for (int sign = 0; sign <= 5; sign++) {
            due("21: each its own " + sign, x.sign(sign, 11, 0), sign % 3 + 1);
        }
        for (int sign : new int[] {LEAST, -1, 6, 256, GREATEST}) {
            due("21: sign " + sign, x.sign(sign, 0, 1), BAD);
            due("21: sign " + sign + " and minute 12", x.sign(sign, 12, 1), BAD);
        }
    }

    /** "12 minutes with 0 to 3 fires each (0 at first)", promise 21: "what it had. BAD." */
    private static void signsHaveTwelveMinutes() {
        LyingBeacons x = new LyingBeacons();
        for (int sign = 0; sign <= 5; sign++) {
            for (int minute = 0; minute <= 11; minute++) {
                due("21: 0 at first", x.sign(sign, minute, (sign + minute) % 4), 0);
            }
        }
        for (int minute : new int[] {LEAST, -12, -1, 12, 24, 256, GREATEST}) {
            due("21: minute " + minute, x.sign(1, minute, 1), BAD);
        }
        for (int sign = 0; sign <= 5; sign++) {
            for (int minute = 0; minute <= 11; minute++) {
                due("21: as it was told", x.sign(sign, minute, 0), (sign + minute) % 4);
            }
        }
    }

    /** "0 to 3 fires each", promise 21: "BAD." */
    private static void firesAreZeroToThree() {
        LyingBeacons x = new LyingBeacons();
        int had = 0;
        for (int fires : new int[] {3, 0, 1, 2, 3}) {
            due("21: fires " + fires, x.sign(0, 0, fires), had);
            had = fires;
        }
        for (int fires : new int[] {LEAST, -1, 4, 256, GREATEST}) {
            due("21: fires " + fires, x.sign(0, 0, fires), BAD);
            due("21: fires " + fires + " of sign 6", x.sign(6, 0, fires), BAD);
        }
        due("21: nothing changed", x.sign(0, 0, 0), 3);
    }

    /** Promise 22: "NEAR. BAD (alike numbers, too)." */
    private static void nearIsOfTwoSigns() {
        LyingBeacons x = new LyingBeacons();
        for (int a = 0; a <= 5; a++) {
            for (int b = 0; b <= 5; b++) {
                due("22: " + a + " and " + b, x.near(a, b), a == b ? BAD : 0);
            }
        }
        for (int sign : new int[] {LEAST, -1, 6, 256, GREATEST}) {
            due("22: first " + sign, x.near(sign, 0), BAD);
            due("22: second " + sign, x.near(0, sign), BAD);
            due("22: both " + sign, x.near(sign, sign), BAD);
            due("22: first " + sign + ", second 7", x.near(sign, 7), BAD);
        }
    }

    private static LyingBeacons signs(String one, String other) {
        LyingBeacons x = new LyingBeacons();
        for (int minute = 0; minute < 12; minute++) {
            x.sign(0, minute, one.charAt(minute) - '0');
            x.sign(5, minute, other.charAt(minute) - '0');
        }
        return x;
    }

    private static void near(String one, String other, int want) {
        LyingBeacons x = signs(one, other);
        due("22: " + one + " and " + other, x.near(0, 5), want);
        due("22: " + other + " and " + one, x.near(5, 0), want);
    }

    /** "NEAR: the fewest minutes that mist must take .. so that both look alike". */
    private static void nearIsFromNoneToAll() {
        near("000000000000", "000000000000", 0);
        near("333333333333", "333333333333", 0);
        near("123123123123", "123123123123", 0);
        near("000000000000", "111111111111", 12);
        near("111111111111", "222222222222", 24);
        near("000000000000", "000000000003", 1);
    }

    /** "the one moved by some minutes from -3 to 3 against the other". */
    private static void nearMovesByThreeAtMost() {
        for (int first = 0; first < 12; first++) {
            for (int second = 0; second < 12; second++) {
                String one = "0".repeat(first) + "2" + "0".repeat(11 - first);
                String other = "0".repeat(second) + "2" + "0".repeat(11 - second);
                near(one, other, Math.abs(first - second) <= 3 ? 0 : 2);
            }
        }
    }

    /** "(what is beyond the 12 minutes counts as 0)". */
    private static void nearCountsZeroBeyondTheMinutes() {
        near("000123123123", "123123123000", 0);
        near("000123123123", "123123123001", 1);
        near("123000000000", "000000000123", 6);
        near("321123213231", "123213231000", 3);
        near("321123213231", "000321123213", 3);
        near("100000000001", "000100000000", 1);
    }

    /** "(a minute with fires of one SIGN counts 1)". */
    private static void nearCountsAMinuteOfOneSign() {
        near("100000000000", "200000000000", 2);
        near("111111111111", "111111211111", 2);
        near("111111111111", "111111011111", 1);
        near("300000000001", "300000000002", 2);
    }
}
