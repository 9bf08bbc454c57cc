import java.util.ArrayList;
import java.util.Collections;
import java.util.List;
import java.util.Random;

/**
 * Told runs of up to 512 calls on one object in which the calls of different promises follow one another: what one
 * of them leaves behind, the next ones find. Each call is looked at by the second telling, too.
 */
public final class RunsTest extends Bench {
    private static final int UNWRITTEN = -1;
    /** A HEAD, a RELAY, the EAR. */
    private static final String LINE = "h1;h0;h2;v0,1;v1,2;";
    /** A HEAD, two RELAYS between it and the EAR, who wants both. */
    private static final String RING = "h1;h0;h0;h2;v0,1;v0,2;v1,3;v2,3;r3,2,1;";
    /** Two HEADS, four RELAYS of whom one lies, two SPARES, the EAR; wood, sleep, mist. */
    private static final String WIDE = "h1;h1;h0;h0;h0;h0;h3;h3;h2;v0,2;v0,3;v1,3;v1,4;v2,4;v2,5;v3,5;v3,4;v4,8;v5,8;v3,8;v2,6;"
        + "v6,8;v7,0;v7,8;r8,2,2;r2,1,2;r5,2,1;w4,20;s3,9,12;g4,8,0,30;l5,3,5;l5,20,22;";

    public static void main(String[] args) {
        aTextIsWrittenWipedAndWrittenAnew();
        aTextGrowsBehindWhatIsLaid();
        aTextIsFullAndEmptyByTurns();
        itemsAreCutByWrites();
        netsAreLaidOverOneAnother();
        layForgetsShipAndLogsAlone();
        aRefusedLayForgetsNothing();
        shipsComeAndGo();
        logsComeAndGo();
        keptOnesComeBackInTurn();
        whatIsKeptStaysAsItWas();
        keptOnesOutliveTexts();
        eachKindOfItemComesAndGoes();
        anEarComesAndGoes();
        liarsAreAskedBetweenNights();
        signsAndCostsStay();
        for (int seed = 1; seed <= 40; seed++) {
            allPromisesInAnyOrder(new Random(seed), "order " + seed);
        }
        end();
    }

    /** Promises 2 to 5: the same few bytes again and again, each time with another rule. */
    private static void aTextIsWrittenWipedAndWrittenAnew() {
        Twin t = new Twin("written anew");
        due("3: nothing was written", t.wipe(), 0);
        for (int round = 0; round < 4; round++) {
            for (int m = 1; m <= 9; m++) {
                t.add(LINE);
                due("29: as long", t.count(5), 19);
                t.add("r1,1," + m + ";");
                due("4: no fault", t.fault(), NONE);
                due("5: three hills", t.lay(), 3);
                due("6: m", t.hill(1, 3), m);
                due("15: behind m minutes", t.late(0, 0), m + 1);
                due("3: as long", t.wipe(), 26);
                due("29: empty", t.count(5), 0);
                due("6: m is laid still", t.hill(1, 3), m);
            }
        }
        due("4: an empty text", t.fault(), NONE);
        due("5: an empty text", t.lay(), 0);
        due("6: no hill", t.hill(1, 3), BAD);
    }

    /** "LAID is a TEXT without FAULT": what is written behind it counts with the next lay alone. */
    private static void aTextGrowsBehindWhatIsLaid() {
        Twin t = new Twin("grows");
        t.add("h1;h0;");
        due("5: two", t.lay(), 2);
        t.add("h2;");
        due("29: two still", t.count(0), 2);
        due("11: no ear still", t.alarm(), NO);
        due("5: three", t.lay(), 3);
        due("11: an ear that sees nobody", t.alarm(), NONE);
        t.add("v0,1;v1,2;");
        due("15: no sight still", t.late(0, 0), NONE);
        t.lay();
        due("15: sights", t.late(0, 0), 2);
        t.ship(1, 0, 0);
        due("11: by the ship", t.alarm(), 2);
        t.add("w1,0;");
        due("11: wood is told, but not laid", t.alarm(), 2);
        t.lay();
        due("11: no ship any more", t.alarm(), NONE);
        t.ship(1, 0, 0);
        due("11: no wood", t.alarm(), NONE);
        due("9: the head alone", t.seen(59), 1);
        t.add("v0,2;");
        t.lay();
        t.ship(1, 0, 0);
        due("11: straight to the ear", t.alarm(), 1);
        t.add("w1,1;");
        due("4: wood told twice", t.fault(), 29);
        due("5: wood told twice", t.lay(), NO);
        due("11: as laid", t.alarm(), 1);
        t.add("s2,0,9;");
        due("4: the first fault stays", t.fault(), 29);
        due("3: all of it", t.wipe(), 41);
        due("11: as laid behind a wipe", t.alarm(), 1);
        due("12: as laid behind a wipe", t.falseBy(1), 1);
        due("5: nothing", t.lay(), 0);
        due("11: no ear", t.alarm(), NO);
    }

    /** Promise 2 with 3: "300 at most", whatever was there ahead. */
    private static void aTextIsFullAndEmptyByTurns() {
        Twin t = new Twin("full and empty");
        t.add(LINE);
        t.lay();
        for (int round = 0; round < 10; round++) {
            t.put("h0;".repeat(100));
            due("29: full", t.count(5), 300);
            due("2: no room", t.write(1 + round % 8, 59), FULL);
            due("4: the eleventh hill", t.fault(), 30);
            due("5: the eleventh hill", t.lay(), NO);
            due("15: as laid", t.late(0, 0), 2);
            if (round % 2 == 0) {
                due("3: full", t.wipe(), 300);
                due("2: room", t.write(8, bytes("h1;h0;h2", 0, 8)), 8);
            }
        }
        t.put("h1;h2;");
        due("4: nothing of what was wiped", t.fault(), NONE);
        due("5: nothing of what was wiped", t.lay(), 2);
        due("29: nothing of what was wiped", t.count(1), 0);
    }

    /** Promise 4: a text is one, however it was written; an item that is cut is a FAULT until the rest comes. */
    private static void itemsAreCutByWrites() {
        Twin t = new Twin("cut");
        String text = "h1;h0;h2;v0,1;v1,2;r1,1,2;w0,12;s2,0,1;g0,1,3,4;l1,50,59;";
        int start = 0;
        for (int i = 0; i < text.length(); i++) {
            due("2: one byte more", t.write(1, text.charAt(i)), i + 1);
            boolean whole = text.charAt(i) == ';';
            due("4: behind byte " + i, t.fault(), whole ? NONE : start);
            due("5: behind byte " + i, t.lay(), whole ? Math.min(3, (i + 1) / 3) : NO);
            start = whole ? i + 1 : start;
        }
        due("29: sights", t.count(1), 2);
        due("29: liars", t.count(4), 1);
        for (int n = 1; n <= 8; n++) {
            t.wipe();
            for (int at = 0; at < text.length(); at += n) {
                int some = Math.min(n, text.length() - at);
                t.write(some, bytes(text, at, some));
            }
            due("5: written " + n + " at once", t.lay(), 3);
            due("6: wood, written " + n + " at once", t.hill(0, 4), 12);
        }
    }

    /** Promise 5: nothing of the net that was laid ahead is left. */
    private static void netsAreLaidOverOneAnother() {
        Twin t = new Twin("laid over");
        String[] texts = {WIDE, LINE, RING, "h3;h3;h1;", "", "h2;h1;v0,1;w1,4;l1,0,59;"};
        int[][] counts = {{9, 15, 2, 2, 1}, {3, 2, 1, 0, 0}, {4, 4, 1, 0, 0}, {3, 0, 1, 2, 0}, {0, 0, 0, 0, 0}, {2, 1, 1, 0, 1}};
        int[] alarms = {5, NONE, NONE, NO, NO, 0};
        int[] lates = {4, 2, 2, NO, NO, 1};
        int[] bests = {2, 2, 2, NO, NO, 1};
        int[] lasts = {15, 0, 0, 0, 0, 0};
        int[] order = {0, 1, 0, 2, 5, 2, 3, 0, 4, 0, 5, 1, 3, 1};
        for (int one : order) {
            t.put(texts[one]);
            due("5: hills of " + one, t.lay(), counts[one][0]);
            for (int what = 0; what <= 4; what++) {
                due("29: " + what + " of " + one, t.count(what), counts[one][what]);
            }
            due("11: alarm of " + one, t.alarm(), alarms[one]);
            due("17: best of " + one, t.bestRule(0, 1), bests[one]);
            due("15: late of " + one, t.late(0, 0), lates[one]);
            due("6: beyond its hills", t.hill(counts[one][0], 0), BAD);
            for (int hill = 0; hill < counts[one][0]; hill++) {
                t.hill(hill, 2);
            }
            due("10: beyond its hills", t.wood(counts[one][0]), BAD);
            due("9: the last minute of " + one, t.seen(59), lasts[one]);
        }
    }

    /** Promise 5: "LOGS are not written, no SHIP", also if the same text is laid again; the rest stays. */
    private static void layForgetsShipAndLogsAlone() {
        Twin t = new Twin("laid again");
        t.put(RING);
        t.lay();
        t.sign(4, 11, 3);
        t.cost(1, 500);
        t.ship(1, 0, 0);
        due("27: one", t.keep(), 1);
        for (int a = 0; a <= 22; a++) {
            due("7: a ship", t.ship(1, a, a), 0);
            due("11: behind the ship", t.alarm(), a + 2);
            due("19: not written", t.log(1, a), UNWRITTEN);
            due("19: not written", t.log(3, 60), UNWRITTEN);
            due("20: by the head, who is not written", t.logs(1), a == 0 ? 0 : 2);
            due("20: without any", t.logs(0), a == 0 ? 2 : 0);
            due("29: two written", t.count(6), 2);
            due("5: again", t.lay(), 4);
            due("29: none written", t.count(6), 0);
            due("11: no ship", t.alarm(), NONE);
            due("9: nobody", t.seen(59), 0);
            due("10: all wood", t.wood(0), 99);
            due("20: nobody to ask", t.logs(2), NONE);
            due("8: nobody", t.burns(0, a + 1), 0);
            due("20: nobody may be", t.logs(1), 0);
            due("22: signs stay", t.near(4, 0), 1);
            due("26: costs stay", t.unbelieved(0, 0), 4);
            due("29: kept stay", t.count(7), 1);
        }
        due("28: back", t.back(), 0);
        due("11: the ship that was kept", t.alarm(), 2);
    }

    /** "NO: a FAULT": then "nothing changes". */
    private static void aRefusedLayForgetsNothing() {
        Twin t = new Twin("refused");
        t.put(LINE);
        t.lay();
        t.ship(1, 10, 20);
        t.log(0, 11);
        t.log(1, 11);
        t.add("h0;");
        for (int round = 0; round < 20; round++) {
            due("5: a hill behind sights", t.lay(), NO);
            due("4: a hill behind sights", t.fault(), 19);
            due("11: the ship", t.alarm(), 12);
            due("10: burning from minute 11", t.wood(0), 50);
            due("20: without cause", t.logs(0), 2);
            due("20: too soon", t.logs(3), 2);
            due("29: two written", t.count(6), 2);
            due("29: three hills", t.count(0), 3);
            due("14: as laid", t.trueBy(0, 0), 2);
            due("14: as laid", t.trueBy(0, 2), NONE);
        }
        due("3: all of it", t.wipe(), 22);
        t.add(LINE);
        due("5: laid", t.lay(), 3);
        due("11: no ship", t.alarm(), NONE);
        due("29: none written", t.count(6), 0);
    }

    /** Promises 7 to 11: "one at most": each ship drives the one ahead away, and the night is another one. */
    private static void shipsComeAndGo() {
        Twin t = new Twin("ships");
        t.put("h1;h1;h0;h2;v0,2;v1,2;v2,3;r2,2,2;w0,30;");
        due("5: four", t.lay(), 4);
        for (int a = 0; a < 20; a++) {
            due("7: both", t.ship(3, a, a), 0);
            due("11: both", t.alarm(), a + 3);
            due("9: both", t.seen(a + 1), 3);
            due("10: to the end of wood", t.wood(0), 0);
            due("8: the last minute with wood", t.burns(0, a + 30), 1);
            due("8: without wood", t.burns(0, a + 31), 0);
            due("7: one", t.ship(2, a, 59), 0);
            due("11: one is too few", t.alarm(), NONE);
            due("10: not burnt", t.wood(0), 30);
            due("7: no head", t.ship(4, a, a), BAD);
            due("9: the one still", t.seen(59), 2);
            due("7: nobody", t.ship(0, a, 59), 0);
            due("9: nobody", t.seen(59), 0);
            due("15: liars and ships are aside", t.late(0, 0), NONE);
            due("13: both heads, or the relay with another", t.falseFor(2, 0), 3);
            due("12: the relay", t.falseBy(4), 1);
        }
    }

    /** Promises 19, 20: a log is written, written over and taken back. */
    private static void logsComeAndGo() {
        Twin t = new Twin("logs");
        t.put("h1;h0;h0;h2;v0,1;v0,2;v1,2;v2,3;r2,2,3;");
        due("5: four", t.lay(), 4);
        for (int e = 1; e <= 40; e++) {
            due("19: the head", t.log(0, e), UNWRITTEN);
            due("19: the relay behind it", t.log(1, e + 1), UNWRITTEN);
            due("19: in time", t.log(2, e + 4), UNWRITTEN);
            due("20: nobody without cause", t.logs(0) | t.logs(1) | t.logs(3), 0);
            due("19: a minute too soon", t.log(2, e + 3), e + 4);
            due("20: without cause", t.logs(0), 4);
            due("20: too soon", t.logs(3), 4);
            due("19: the head is not written", t.log(0, UNWRITTEN), e);
            due("19: nor the relay", t.log(1, UNWRITTEN), e + 1);
            t.log(2, UNWRITTEN);
        }
        due("29: none written", t.count(6), 0);
    }

    /** Promises 27, 28: the last kept comes back first. */
    private static void keptOnesComeBackInTurn() {
        Twin t = new Twin("in turn");
        for (int round = 0; round < 12; round++) {
            t.put(LINE);
            t.lay();
            t.ship(1, round, round);
            t.log(0, round);
            due("27: the first", t.keep(), 1);
            t.put(RING);
            t.lay();
            t.ship(1, round + 20, round + 20);
            due("27: the second", t.keep(), 2);
            t.wipe();
            due("5: nothing", t.lay(), 0);
            due("27: no third", t.keep(), FULL);
            due("29: two", t.count(7), 2);
            due("11: no ear", t.alarm(), NO);
            due("28: the second", t.back(), 1);
            due("11: its ship", t.alarm(), round + 22);
            due("29: its logs", t.count(6), 0);
            due("29: the text is not kept", t.count(5), 0);
            due("28: the first", t.back(), 0);
            due("11: its ship", t.alarm(), round + 2);
            due("19: its log", t.log(0, 7), round);
            due("28: no other", t.back(), NO);
            due("19: no other", t.log(0, 60), 7);
            due("29: none", t.count(7), 0);
        }
    }

    /** Promise 27: what happens behind a keep does nothing to what is kept, and what comes back is no longer kept. */
    private static void whatIsKeptStaysAsItWas() {
        Twin t = new Twin("stays");
        t.put(LINE);
        t.lay();
        t.log(0, 30);
        t.ship(1, 30, 59);
        due("27: one", t.keep(), 1);
        for (int i = 0; i < 30; i++) {
            due("19: as it was", t.log(0, i), i == 0 ? 30 : 30 + i);
            due("7: another ship", t.ship(1, i, i), 0);
            due("27: two", t.keep(), 2);
            due("19: behind it", t.log(0, 60), i);
            due("7: no ship", t.ship(0, 0, 0), 0);
            due("11: no ship", t.alarm(), NONE);
            due("28: the second", t.back(), 1);
            due("19: as it was kept", t.log(0, 59), i);
            due("11: as it was kept", t.alarm(), i + 2);
            due("28: the first", t.back(), 0);
            due("11: as it was kept, or beyond the night", t.alarm(), 32 + i <= 59 ? 32 + i : NONE);
            due("19: as it was kept", t.log(0, 31 + i), 30 + i);
            due("7: a later ship", t.ship(1, Math.min(59, 31 + i), 59), 0);
            due("10: by the later ship", t.wood(0), Math.min(99, 71 + i));
            due("27: one", t.keep(), 1);
        }
    }

    /** KEPT is "what is LAID", not its text: that may be gone, faulty or another one. */
    private static void keptOnesOutliveTexts() {
        Twin t = new Twin("outlive");
        t.put(WIDE);
        t.lay();
        t.ship(3, 2, 8);
        t.keep();
        for (int round = 0; round < 8; round++) {
            t.put("h2;h1;v0,1;l1,4" + round + ",59;");
            due("5: two", t.lay(), 2);
            due("11: the liar", t.alarm(), 40 + round);
            due("27: two", t.keep(), 2);
            t.put("h2;x");
            due("5: a fault", t.lay(), NO);
            due("28: the liar", t.back(), 1);
            due("11: the liar", t.alarm(), 40 + round);
            due("29: the liar", t.count(4), 1);
            due("10: the liar's wood", t.wood(1), 79 + round);
            due("28: the wide one", t.back(), 0);
            due("11: the wide one", t.alarm(), 5);
            due("9: the wide one", t.seen(21), 63);
            due("18: the wide one", t.added(0), 0);
            due("15: the wide one", t.late(0, 1), 6);
            due("4: the text is as it was", t.fault(), 3);
            t.wipe();
            due("5: nothing", t.lay(), 0);
            due("9: nobody", t.seen(21), 0);
            t.put(WIDE);
            due("5: the wide one again", t.lay(), 9);
            due("9: without its ship", t.seen(3), 32);
            t.ship(3, 2, 8);
            due("27: one", t.keep(), 1);
        }
    }

    /** Each kind of item is forgotten with the next lay, and comes back with what is kept. */
    private static void eachKindOfItemComesAndGoes() {
        String[] items = {"", "g0,1,5,9;", "s1,6,20;", "l1,3,3;", "w1,0;", "r2,1,4;", "v0,2;"};
        int[] alarms = {6, 11, 21, 3, NONE, 9, 5};
        int[] heads = {44, 44, 44, 43, 44, 44, 44};
        int[] relays = {45, 50, 60, 98, 0, 45, 45};
        for (int first = 0; first < items.length; first++) {
            Twin t = new Twin("item " + items[first]);
            for (int second = 0; second < items.length; second++) {
                t.put(LINE + items[first]);
                due("5: the first", t.lay(), 3);
                t.ship(1, 4, 4);
                due("11: of the first", t.alarm(), alarms[first]);
                due("27: the first", t.keep(), 1);
                t.put(LINE + items[second]);
                due("5: the second", t.lay(), 3);
                t.ship(1, 4, 4);
                due("11: of the second", t.alarm(), alarms[second]);
                due("10: of the relay of the second", t.wood(1), relays[second]);
                due("28: the first", t.back(), 0);
                due("10: of the relay of the first", t.wood(1), relays[first]);
                due("10: of the head, whom a liar lights, of the first", t.wood(0), heads[first]);
                due("11: of the first", t.alarm(), alarms[first]);
            }
        }
    }

    /** "NO: no EAR": by what is laid now, not by what was. */
    private static void anEarComesAndGoes() {
        Twin t = new Twin("ear");
        for (int round = 0; round < 9; round++) {
            t.put("h1;h0;h0;v0,1;v1,2;");
            due("5: three", t.lay(), 3);
            withoutEar(t);
            due("27: without ear", t.keep(), 1);
            t.put(LINE);
            due("5: three", t.lay(), 3);
            due("11: nothing burns", t.alarm(), NONE);
            due("12: the relay", t.falseBy(2), 1);
            due("12: the ear is no liar", t.falseBy(4), BAD);
            due("13: the head, or the relay", t.falseFor(1, 0), 2);
            due("14: by the head", t.trueBy(0, 0), 2);
            due("15: nobody silent", t.late(0, 0), 2);
            due("15: the relay silent", t.late(1, 0), NONE);
            due("16: nobody lies", t.bears(), 0);
            due("17: one, one", t.bestRule(0, 0), 11);
            due("18: nobody", t.added(0), 0);
            due("28: without ear", t.back(), 0);
            withoutEar(t);
        }
    }

    private static void withoutEar(Twin t) {
        due("11: no ear", t.alarm(), NO);
        due("12: no ear", t.falseBy(7), NO);
        due("12: BAD ahead of NO", t.falseBy(8), BAD);
        due("13: no ear", t.falseFor(1, 0), NO);
        due("14: no ear", t.trueBy(0, 6), NO);
        due("15: no ear", t.late(0, 0), NO);
        due("16: no ear", t.bears(), NO);
        due("17: no ear", t.bestRule(0, 0), NO);
        due("18: no ear", t.added(0), NO);
        due("20: too soon needs none", t.logs(3), 0);
    }

    /** Part 2 leaves rules, sights and hills as they are for nights and logs, and the other way round. */
    private static void liarsAreAskedBetweenNights() {
        Twin t = new Twin("between nights");
        t.put("h1;h3;h0;h2;v0,1;v1,3;v0,2;v2,3;r2,1,3;r3,1,2;s2,20,29;");
        due("5: four", t.lay(), 4);
        t.log(0, 2);
        t.log(2, 4);
        for (int a = 0; a < 21; a++) {
            t.ship(1, a, a);
            due("17: one, one", t.bestRule(0, 0), 11);
            due("11: two minutes of the relay ahead of its sleep, or behind it", t.alarm(), a <= 14 ? a + 5 : 31);
            due("18: who is there is enough", t.added(0), 0);
            due("8: a spare", t.burns(1, 59), 0);
            due("15: with a sight gone", t.late(0, 1), NONE);
            due("6: sights", t.hill(0, 1), 6);
            due("17: in minute", t.bestRule(0, 1), 2);
            due("20: too soon by one minute", t.logs(3), 4);
            due("6: k", t.hill(2, 2), 1);
            due("6: m", t.hill(2, 3), 3);
            due("15: three minutes, then two", t.late(0, 0), 5);
            due("18: none bears one", t.added(1), NONE);
            due("13: the head's ring", t.falseFor(1, 2), 5);
            due("20: without cause", t.logs(0), 4);
            due("10: burning from behind the ship", t.wood(0), 99 - 59 + a);
            due("9: the head, and the relay in the end", t.seen(59), 5);
            due("16: nobody lies", t.bears(), 0);
            due("12: a spare is no liar", t.falseBy(2), BAD);
            due("14: three minutes, then two", t.trueBy(0, 0), 5);
            due("29: two written", t.count(6), 2);
            due("6: still a spare", t.hill(1, 0), 3);
        }
    }

    /** Promises 21 to 26: neither texts nor what is kept touch signs and costs. */
    private static void signsAndCostsStay() {
        Twin t = new Twin("signs and costs");
        int fires = 0;
        int cost = 100;
        for (int round = 1; round <= 20; round++) {
            due("21: what it had", t.sign(round % 6, 5, round % 4), round > 6 ? (round - 6) % 4 : 0);
            due("21: what it had", t.sign(5, 0, round % 3 + 1), fires);
            fires = round % 3 + 1;
            due("24: what it was", t.cost(0, round * 50), cost);
            cost = round * 50;
            t.put(LINE);
            t.lay();
            due("27: one", t.keep(), 1);
            due("21: what it had", t.sign(5, 0, fires), fires);
            due("25: at the costs", t.sends(5, 0), 6 * cost <= 900 ? 1 : 0);
            due("26: at the costs", t.unbelieved(0, 0), 900 / cost);
            due("23: a watch", t.watch(12, 1, 2, 3, 4), 10);
            t.wipe();
            t.lay();
            due("28: none is left", t.back(), 0);
            due("22: the sign alone", t.near(5, 4), t.near(4, 5));
            due("24: what it was", t.cost(0, cost), cost);
            due("24: what it was at first", t.cost(2, 100), 100);
            due("24: none such", t.cost(3, 0), BAD);
            due("21: what it had", t.sign(5, 0, fires), fires);
        }
    }

    private interface Call {
        int on(Twin t);
    }

    private record Told(String what, Call call, int want) {
    }

    /** On WIDE with its ship and logs, two kept, a faulty text: none of these calls changes what another one tells. */
    private static List<Told> told() {
        List<Told> all = new ArrayList<>();
        toldOfTexts(all);
        toldOfNights(all);
        toldOfLiars(all);
        toldOfLogs(all);
        toldOfTheRest(all);
        return all;
    }

    private static void toldOfTexts(List<Told> all) {
        all.add(new Told("2: nine bytes", t -> t.write(9, 0), BAD));
        all.add(new Told("2: no byte", t -> t.write(0, 0), BAD));
        all.add(new Told("4: the x", t -> t.fault(), 11));
        all.add(new Told("5: a fault", t -> t.lay(), NO));
        all.add(new Told("6: a spare", t -> t.hill(6, 0), 3));
        all.add(new Told("6: sights of the ear", t -> t.hill(8, 1), 248));
        all.add(new Told("6: k of the ear", t -> t.hill(8, 2), 2));
        all.add(new Told("6: m of 2", t -> t.hill(2, 3), 2));
        all.add(new Told("6: wood of 4", t -> t.hill(4, 4), 20));
        all.add(new Told("6: no hill", t -> t.hill(9, 0), BAD));
        all.add(new Told("29: bytes", t -> t.count(5), 12));
    }

    private static void toldOfNights(List<Told> all) {
        all.add(new Told("7: the same ship", t -> t.ship(3, 2, 8), 0));
        all.add(new Told("7: a relay", t -> t.ship(7, 2, 8), BAD));
        all.add(new Told("8: asleep", t -> t.burns(3, 12), 0));
        all.add(new Told("8: awake", t -> t.burns(3, 13), 1));
        all.add(new Told("8: the liar", t -> t.burns(5, 6), 0));
        all.add(new Told("9: minute 3", t -> t.seen(3), 35));
        all.add(new Told("9: minute 8", t -> t.seen(8), 31));
        all.add(new Told("9: minute 10", t -> t.seen(10), 23));
        all.add(new Told("9: minute 60", t -> t.seen(60), BAD));
        all.add(new Told("10: ends", t -> t.wood(4), 0));
        all.add(new Told("10: of the liar", t -> t.wood(5), 93));
        all.add(new Told("11: alarm", t -> t.alarm(), 5));
    }

    private static void toldOfLiars(List<Told> all) {
        all.add(new Told("12: by 2", t -> t.falseBy(4), 1));
        all.add(new Told("12: by a spare", t -> t.falseBy(64), BAD));
        all.add(new Told("13: sets of two", t -> t.falseFor(2, 0), 15));
        all.add(new Told("13: the least", t -> t.falseFor(2, 1), 3));
        all.add(new Told("13: its ring", t -> t.falseFor(2, 2), 63));
        all.add(new Told("13: none", t -> t.falseFor(0, 1), NONE));
        all.add(new Told("14: by 0", t -> t.trueBy(0, 0), 4));
        all.add(new Told("14: 3 silent", t -> t.trueBy(1, 8), NONE));
        all.add(new Told("15: nobody silent", t -> t.late(0, 0), 4));
        all.add(new Told("15: a sight gone", t -> t.late(0, 1), 6));
        all.add(new Told("15: one silent", t -> t.late(1, 0), NONE));
        all.add(new Told("16: bears", t -> t.bears(), 0));
        all.add(new Told("17: rule", t -> t.bestRule(0, 0), 11));
        all.add(new Told("17: minute", t -> t.bestRule(0, 1), 2));
        all.add(new Told("17: none", t -> t.bestRule(1, 0), NONE));
        all.add(new Told("18: nobody", t -> t.added(0), 0));
        all.add(new Told("18: none", t -> t.added(1), NONE));
    }

    private static void toldOfLogs(List<Told> all) {
        all.add(new Told("19: the same", t -> t.log(2, 5), 5));
        all.add(new Told("19: no hill", t -> t.log(9, 5), -100));
        all.add(new Told("19: no minute", t -> t.log(2, 61), -100));
        all.add(new Told("20: sure", t -> t.logs(0), 32));
        all.add(new Told("20: may be", t -> t.logs(1), 4));
        all.add(new Told("20: asked", t -> t.logs(2), 4));
        all.add(new Told("20: too soon", t -> t.logs(3), 36));
        all.add(new Told("21: the same", t -> t.sign(0, 1, 2), 2));
        all.add(new Told("21: no sign", t -> t.sign(6, 1, 2), BAD));
        all.add(new Told("22: moved by one", t -> t.near(0, 1), 2));
        all.add(new Told("22: alike numbers", t -> t.near(1, 1), BAD));
    }

    private static void toldOfTheRest(List<Told> all) {
        all.add(new Told("23: a watch", t -> t.watch(4, 4, 0, -1, -1), 2));
        all.add(new Told("23: too many hours", t -> t.watch(13, 0, 0, 0, 0), BAD));
        all.add(new Told("24: the same", t -> t.cost(0, 300), 300));
        all.add(new Told("24: too dear", t -> t.cost(0, 1001), BAD));
        all.add(new Told("25: just sends", t -> t.sends(2, 0), 1));
        all.add(new Told("25: just not", t -> t.sends(3, 0), 0));
        all.add(new Told("26: more nights", t -> t.unbelieved(100, 100), 203));
        all.add(new Told("26: too many nights", t -> t.unbelieved(101, 100), BAD));
        all.add(new Told("27: no third", t -> t.keep(), FULL));
        int[] counts = {9, 15, 2, 2, 1, 12, 6, 2};
        for (int what = 0; what < counts.length; what++) {
            int one = what;
            all.add(new Told("29: " + what, t -> t.count(one), counts[one]));
        }
        all.add(new Told("29: none such", t -> t.count(8), BAD));
    }

    private static void allPromisesInAnyOrder(Random r, String run) {
        Twin t = new Twin(run);
        t.keep();
        t.put("h1;h2;v0,1;");
        t.lay();
        t.ship(1, 0, 0);
        t.log(0, 9);
        t.keep();
        t.put(WIDE);
        t.lay();
        t.ship(3, 2, 8);
        int[] logged = {4, UNWRITTEN, 5, 5, UNWRITTEN, 5, 0, UNWRITTEN, 60};
        for (int hill = 0; hill < logged.length; hill++) {
            t.log(hill, logged[hill]);
        }
        t.sign(0, 0, 1);
        t.sign(0, 1, 2);
        t.sign(1, 1, 1);
        t.sign(1, 2, 3);
        t.cost(0, 300);
        t.put("h1;h2;v0,1;x");
        List<Told> all = told();
        while (t.left() > 8) {
            Collections.shuffle(all, r);
            for (Told one : all) {
                if (t.left() > 8) {
                    due(run + ", " + one.what, one.call.on(t), one.want);
                }
            }
        }
        due(run + ", 28: the second", t.back(), 1);
        due(run + ", 11: its ship", t.alarm(), 1);
        due(run + ", 19: its log", t.log(0, 60), 9);
        due(run + ", 28: the first", t.back(), 0);
        due(run + ", 29: no hill", t.count(0), 0);
        due(run + ", 28: no other", t.back(), NO);
        due(run + ", 3: the text", t.wipe(), 12);
        due(run + ", 5: the last of 512 calls", t.lay(), 0);
        due(run + ", calls left", t.left(), 0);
    }
}
