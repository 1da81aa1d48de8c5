import java.util.function.LongSupplier;

/**
 * The sentences of the document that name an edge (too small, too large, empty, full, a wrap-around, a refused call),
 * each with a run of its own, worked out by hand; those that PromiseTest has already are not told again.
 */
public final class EdgeTest {
    private static final String MISSING = "throws.NoSuchElementException";
    private static final String UNFIT = "throws.IllegalArgumentException";
    private static final String LATE = "throws.IllegalStateException";
    private static int wrong = 0;
    private static int checked = 0;

    public static void main(String[] args) {
        plainOrNot();
        tagsKeepTheirOrder();
        tagsLeaveBySizeAlone();
        votesAtLeast();
        votesByAge();
        otherCandidates();
        groupsBelowLimit();
        balanceByOne();
        balanceOfBuffers();
        windowOf64();
        windowsByThemselves();
        shutWhenFull();
        pinsAtTheirEdges();
        ordersOfThatGroupAndSegment();
        residentWhileOrdersWait();
        placesComeFree();
        phasesByWhatIsFreeThen();
        buffersAside();
        textsCut();
        textsSpaced();
        tiesOfRules();
        signsAtTheirEdges();
        textsFull();
        stepsCounted();
        accessesCounted();
        workAtTheEndOfTheClock();
        tapeAtItsEdges();
        otherAtItsEdges();
        thoughtIsOfNow();
        thoughtChangesNothing();
        burstAndGo();
        flushOfAll();
        majorityAndIdeal();
        historyIsFull();
        runsAtTheirLastAccess();
        runsBeginAsBehindShape();
        tuneAtItsEdges();
        enoughAtItsEdges();
        needsAtItsEdges();
        splitAtItsEdges();
        shapesAtTheirEdges();
        refusedCallsChangeNothing();
        anyNumbers();
        asTheReadmeTells();
        System.out.println(wrong == 0 ? checked + " answers are as due" : wrong + " answers are not as due");
        if (wrong != 0) {
            System.exit(1);
        }
    }

    private static void due(String what, LongSupplier call, long want) {
        due(what, call, String.valueOf(want));
    }

    private static void due(String what, LongSupplier call, String want) {
        String got = answer(call);
        checked++;
        if (!got.equals(want)) {
            wrong++;
            System.out.println(what + " answered " + got + ", due is " + want);
        }
    }

    private static String answer(LongSupplier call) {
        try {
            return String.valueOf(call.getAsLong());
        } catch (RuntimeException e) {
            return "throws." + e.getClass().getSimpleName();
        }
    }

    private static int feed(NearFar x, String text) {
        int held = 0;
        for (int from = 0; from < text.length(); from += 20) {
            int[] five = new int[5];
            for (int k = 0; k < 20; k++) {
                five[k / 4] = five[k / 4] << 8 | (from + k < text.length() ? text.charAt(from + k) : 0);
            }
            held = x.feed(five[0], five[1], five[2], five[3], five[4]);
        }
        return held;
    }

    private static int rule(NearFar x, String text) {
        feed(x, text);
        return x.rule(text.length());
    }

    private static int work(NearFar x, String text) {
        feed(x, text);
        return x.work(text.length());
    }

    private static int other(NearFar x, String text, int gap) {
        feed(x, text);
        return x.other(text.length(), gap);
    }

    private static void reads(NearFar x, int group, int page, int segment, int times) {
        for (int k = 0; k < times; k++) {
            x.read(group, page, segment);
        }
    }

    private static void goTo(NearFar x, int tick) {
        while (x.told(3) < tick) {
            x.go(Math.min(10_000, tick - x.told(3)));
        }
    }

    /** A new object, LEAST 1: the first read of a PAGE from 1 on ORDERS its SEGMENT. */
    private static NearFar eager() {
        NearFar x = new NearFar();
        x.set(2, 1);
        return x;
    }

    /** Eight GROUPS of eight PAGES of eight SEGMENTS, LEAST 1, 16 ORDERS there (GROUPS 0 and 1, all SEGMENTS). */
    private static NearFar full() {
        NearFar x = eager();
        x.shape(8, 7, 8);
        for (int s = 0; s < 8; s++) {
            x.read(0, 1, s);
            x.read(1, 1, s);
        }
        return x;
    }

    private static int ofLatest(NearFar x) {
        return x.latest(0) * 100 + x.latest(1) * 10 + x.latest(2);
    }

    // Terms, 2. (a)

    private static void plainOrNot() {
        NearFar x = eager();
        x.read(0, 1, 0);
        x.read(1, 1, 0);
        due("2a: it waits", () -> x.order(1, 0) * 10 + x.order(1, 2), 10);
        x.read(1, 2, 1);
        due("2a: an ORDER that waits: not PLAIN", () -> x.latest(2), 2);
        x.read(2, 2, 1);
        due("2a: no ORDER of it: PLAIN", () -> x.latest(2), 0);
        NearFar y = eager();
        y.read(0, 1, 0);
        y.read(0, 2, 1);
        due("2a: an ORDER in flight: not PLAIN", () -> y.latest(2), 2);
        y.set(2, 99);
        y.go(500);
        y.read(0, 3, 3);
        due("2a: another SEGMENT is SWAPPED: not PLAIN", () -> y.latest(2), 1);
        y.flush();
        y.read(0, 3, 3);
        due("2a: nothing is SWAPPED any more: PLAIN", () -> y.latest(2), 0);
        due("2a: a PLAIN one stays in TAGS", () -> y.tag(0), 0);
    }

    private static void tagsKeepTheirOrder() {
        NearFar x = eager();
        x.read(0, 1, 0);
        x.read(0, 0, 0);
        due("2a: the first one is a MISS", () -> x.latest(2), 2);
        x.read(0, 0, 0);
        due("2a: then a HIT", () -> x.latest(2), 1);
        due("2a: a HIT puts no second one there", () -> x.tag(0) * 10 + x.tag(1), -1);
        x.read(1, 1, 0);
        x.read(1, 2, 0);
        due("2a: put first", () -> x.tag(0) * 10 + x.tag(1), 10);
        due("2a: SIZE at most, none left", () -> x.count(6), 2);
        x.read(0, 0, 0);
        due("2a: the last one of SIZE is a HIT", () -> x.latest(2) * 100 + x.tag(0) * 10 + x.tag(1), 101);
        x.read(3, 2, 0);
        due("2a: a PLAIN one moves none", () -> x.tag(0) * 10 + x.tag(1), 1);
        NearFar y = eager();
        y.set(3, 1);
        y.read(0, 1, 0);
        y.read(1, 1, 0);
        y.read(0, 2, 0);
        y.read(1, 2, 0);
        due("2a: SIZE 1: the one there leaves", () -> y.tag(0) * 10 + y.tag(1), 9);
        y.read(1, 2, 0);
        due("2a: SIZE 1: a HIT", () -> y.latest(2), 1);
        y.read(0, 2, 0);
        due("2a: SIZE 1: a MISS again", () -> y.latest(2) * 10 + y.tag(0), 20);
    }

    private static void tagsLeaveBySizeAlone() {
        NearFar x = eager();
        x.set(3, 4);
        for (int g = 0; g < 4; g++) {
            x.read(g, 1, 0);
            x.read(g, 2, 0);
        }
        int[] v = {1, 1, 1, 4, 0, 0, 0};
        for (int k = 0; k < v.length; k++) {
            x.set(k, v[k]);
            int what = k;
            due("9: no TAG leaves by set(" + k + ")", () -> x.tag(3) + 0 * what, 0);
        }
        x.set(3, 8);
        due("9: none leaves by a greater SIZE", () -> x.tag(3) * 10 + x.tag(4), -1);
        x.set(3, 3);
        due("9: just the last one leaves", () -> x.tag(2) * 10 + x.tag(3), 9);
        x.set(3, 0);
        due("9: SIZE 0: all leave", () -> x.tag(0), -1);
        due("20: no place then", () -> x.group(3, 6), -1);
    }

    // Terms, 2. (c)

    private static void votesAtLeast() {
        NearFar x = new NearFar();
        x.set(2, 99);
        x.burst(0, 1, 0, 49);
        x.burst(0, 1, 0, 49);
        due("2d: 98 VOTES, LEAST 99", () -> x.group(0, 3) * 10 + x.told(4), 980);
        x.read(0, 1, 0);
        due("2d: 99 VOTES", () -> x.group(0, 3) * 10 + x.told(4), 991);
        NearFar y = new NearFar();
        reads(y, 0, 1, 0, 2);
        y.set(2, 2);
        due("2d: nothing is ORDERED without an ACCESS", () -> y.told(4), 0);
        y.read(0, 2, 0);
        y.read(0, 1, 0);
        due("2d: LEAST VOTES, behind going down and up", () -> y.group(0, 3) * 10 + y.told(4), 21);
        NearFar z = eager();
        z.read(0, 0, 0);
        due("2d: the CANDIDATE 0, nothing SWAPPED", () -> z.group(0, 3) * 100 + z.told(4) * 10 + z.group(0, 0), 99);
    }

    private static void votesByAge() {
        NearFar x = new NearFar();
        x.set(6, 9_999);
        reads(x, 0, 1, 0, 3);
        x.go(9_998);
        due("2c: AGE 9,999: a TICK too soon", () -> x.group(0, 9), 3);
        x.go(1);
        due("2c: AGE 9,999: halved, cut", () -> x.group(0, 9), 1);
        x.go(9_998);
        due("2c: not yet twice", () -> x.group(0, 9), 1);
        x.go(1);
        due("2c: twice: 0", () -> x.group(0, 9), 0);
        x.read(0, 2, 0);
        due("2c: 0 VOTES once halved: the new CANDIDATE", () -> x.group(0, 2) * 10 + x.group(0, 3), 21);
        NearFar y = new NearFar();
        y.set(6, 10);
        reads(y, 0, 1, 0, 2);
        y.go(10);
        y.read(0, 1, 0);
        due("2c: halved, then 1 more", () -> y.group(0, 3), 2);
        y.go(5);
        y.read(0, 2, 0);
        due("2c: too soon, 1 less", () -> y.group(0, 3), 1);
        y.go(5);
        y.read(0, 1, 0);
        due("2c: since the ACCESS ahead in the GROUP", () -> y.group(0, 3), 2);
        y.read(1, 1, 0);
        y.go(5);
        y.read(1, 1, 0);
        y.go(5);
        due("2c: that of another GROUP does not count", () -> y.group(0, 9), 1);
        y.set(6, 0);
        due("2c: AGE 0 again: as they are", () -> y.group(0, 9), 2);
    }

    // Terms, 2. (d)

    private static void otherCandidates() {
        NearFar x = eager();
        x.read(0, 1, 0);
        reads(x, 0, 2, 0, 2);
        due("2d: another one is RESIDENT, nothing of it SWAPPED", () -> x.group(0, 2) * 100 + x.told(4) * 10 + x.group(0, 0), 211);
        reads(x, 0, 0, 0, 2);
        due("2d: the CANDIDATE 0, in flight, not SWAPPED", () -> x.group(0, 2) * 10 + x.told(4), 1);
        due("2d: none of these is wanting", () -> x.told(10), 0);
        x.go(500);
        due("3: it is SWAPPED at its END", () -> x.group(0, 1) * 10 + x.group(0, 0), 11);
        x.read(0, 0, 1);
        due("2d: the CANDIDATE 0, another SEGMENT: none", () -> x.told(4), 0);
        x.read(0, 0, 0);
        x.read(0, 0, 0);
        due("2d: in flight already: ORDERED once", () -> x.told(4) * 10 + x.told(10), 10);
        NearFar y = eager();
        y.shape(1, 1, 8);
        for (int s = 7; s >= 0; s--) {
            y.read(0, 1, s);
        }
        y.go(500);
        due("2d: all SEGMENTS are SWAPPED", () -> y.group(0, 1) * 10 + y.told(8), 2_558);
        y.read(0, 1, 3);
        due("2d: SWAPPED already: none", () -> y.told(4), 0);
    }

    private static void groupsBelowLimit() {
        NearFar x = new NearFar();
        x.set(4, 1);
        reads(x, 0, 0, 0, 2);
        x.set(4, 64);
        due("9: WINDOW not 0: LIMIT stays", () -> x.told(5), 2);
        for (int g = 0; g < 4; g++) {
            int group = g;
            due("20: OPEN below LIMIT, " + g, () -> x.group(group, 5), g < 2 ? 1 : 0);
        }
        reads(x, 3, 1, 0, 4);
        due("2d: above LIMIT: none", () -> x.told(4), 0);
        reads(x, 2, 1, 0, 4);
        due("2d: at LIMIT: none", () -> x.told(4), 0);
        due("2d: it has no RESIDENT", () -> x.group(2, 0), -1);
        reads(x, 1, 1, 0, 3);
        due("2d: below LIMIT: ORDERED", () -> x.told(4), 1);
        x.set(4, 0);
        due("9: WINDOW 0: LIMIT is GROUPS", () -> x.told(5), 4);
    }

    // Terms, 2. (e)

    private static void balanceByOne() {
        NearFar x = new NearFar();
        x.set(4, 2);
        x.set(0, 7);
        x.read(0, 0, 0);
        x.read(0, 1, 0);
        due("2e: 7 above 6", () -> x.told(5), 3);
        x.set(0, 6);
        x.read(0, 0, 0);
        x.read(0, 1, 0);
        due("2e: 6 and 6: LIMIT stays", () -> x.told(5), 3);
        x.set(0, 5);
        x.read(0, 0, 0);
        x.read(0, 1, 0);
        due("2e: 5 below 6", () -> x.told(5), 4);
        x.read(0, 0, 0);
        x.read(0, 1, 0);
        due("2e: GROUPS at most", () -> x.told(5), 4);
        x.set(0, 2);
        x.set(4, 6);
        reads(x, 0, 0, 0, 5);
        x.read(0, 1, 0);
        due("2e: five of NEAR above one of FAR", () -> x.told(5), 3);
        x.set(4, 1);
        reads(x, 0, 0, 0, 3);
        due("2e: LIMIT 0", () -> x.told(5), 0);
        x.read(0, 0, 0);
        due("2e: LIMIT is above 0 no more: it stays", () -> x.told(5), 0);
        x.shape(1, 1, 1);
        due("2: LIMIT is GROUPS, WINDOW stays", () -> x.told(5) * 10 + x.told(15), 11);
        x.read(0, 0, 0);
        due("2e: one GROUP, shut", () -> x.told(5) * 10 + x.group(0, 5), 0);
    }

    private static void balanceOfBuffers() {
        NearFar x = eager();
        x.read(0, 1, 0);
        x.go(2);
        x.set(4, 1);
        x.read(0, 0, 0);
        due("2e: a MISS and a BUFFER: neither of NEAR nor of FAR", () -> x.latest(1) * 100 + x.latest(2) * 10 + x.told(5), 224);
        x.read(3, 0, 0);
        due("2e: one of NEAR", () -> x.told(5), 3);
        x.read(0, 0, 0);
        due("2e: a BUFFER again: LIMIT stays", () -> x.latest(1) * 10 + x.told(5), 23);
        due("18: in (b) alone", () -> x.count(1) * 100 + x.count(2) * 10 + x.count(3), 112);
    }

    private static void windowOf64() {
        NearFar x = new NearFar();
        x.set(4, 64);
        x.burst(0, 0, 0, 50);
        x.burst(0, 0, 0, 13);
        due("2e: 63 ACCESSES", () -> x.told(5), 4);
        x.read(0, 0, 0);
        due("2e: 64 ACCESSES", () -> x.told(5), 3);
        x.burst(0, 0, 0, 50);
        x.burst(0, 0, 0, 13);
        due("2e: since the latest such end", () -> x.told(5), 3);
        x.read(0, 0, 0);
        due("2e: 64 more", () -> x.told(5), 2);
    }

    private static void windowsByThemselves() {
        NearFar x = new NearFar();
        x.set(4, 2);
        int[] v = {2, 6, 3, 2, 2, 1, 0};
        int limit = 4;
        for (int k = 0; k < v.length; k++) {
            x.set(4, 2);
            x.read(0, 0, 0);
            x.set(k, v[k]);
            x.read(0, 0, 0);
            limit -= k == 4 ? 0 : 1;
            int want = Math.max(0, limit);
            due("9: WINDOW alone begins counting anew, " + k, () -> x.told(5), want);
        }
        NearFar y = new NearFar();
        y.read(0, 0, 0);
        y.set(4, 2);
        y.read(0, 0, 0);
        due("2e: counted since set()", () -> y.told(5), 4);
        y.read(0, 1, 0);
        due("2e: two since then, 2 below 6", () -> y.told(5), 4);
        y.read(0, 0, 0);
        y.read(0, 0, 0);
        due("2e: what was of FAR ahead of the end is forgotten", () -> y.told(5), 3);
    }

    private static void shutWhenFull() {
        NearFar x = eager();
        x.shape(8, 7, 8);
        for (int s = 0; s < 8; s++) {
            x.read(7, 1, s);
        }
        x.go(1_000);
        for (int s = 0; s < 8; s++) {
            x.read(0, 1, s);
            x.read(1, 1, s);
        }
        x.set(4, 1);
        x.read(0, 0, 7);
        due("2e: of NEAR", () -> x.latest(1) * 10 + x.told(5), 7);
        due("3: those that are shut have no place", () -> x.told(10) * 1_000 + x.group(7, 7) * 100 + x.told(4), 8_016);
        due("3: they stay SWAPPED", () -> x.group(7, 1), 255);
        NearFar y = eager();
        y.read(3, 1, 0);
        y.read(3, 1, 1);
        y.go(500);
        reads(y, 3, 0, 1, 3);
        due("2d: one is ORDERED", () -> y.told(4) * 10 + y.order(0, 1), 11);
        y.set(4, 1);
        y.read(0, 0, 0);
        due("2e: the one there already is none", () -> y.told(5) * 100 + y.told(4) * 10 + y.told(10), 320);
    }

    private static void pinsAtTheirEdges() {
        NearFar x = new NearFar();
        x.shape(8, 7, 8);
        due("12: the last PAGE of the last GROUP", () -> x.pin(7, 7), -1);
        due("17: its bit", () -> x.told(20), 128);
        due("12: PAGE 0 is a PIN, too", () -> x.pin(0, 0), -1);
        due("12: the same again", () -> x.pin(0, 0), 0);
        due("17: bits", () -> x.told(20), 129);
        x.read(7, 7, 7);
        due("2d: 1 of VOTES, below LEAST, is enough", () -> x.told(4) * 10 + x.group(7, 0), 17);
        x.read(0, 1, 0);
        reads(x, 0, 1, 0, 9);
        due("2d: no PAGE but the PIN, whatever VOTES", () -> x.group(0, 7), 0);
        x.read(0, 0, 0);
        due("2d: the PIN 0, not SWAPPED: nothing", () -> x.group(0, 7) * 10 + x.group(0, 0), -1);
        x.unpin(0);
        x.read(0, 1, 0);
        due("13: no PIN: by VOTES again", () -> x.group(0, 7) * 10 + x.group(0, 0), 11);
        rule(x, "1=2");
        x.pin(1, 1);
        x.read(1, 1, 0);
        due("2d: whatever the RULE", () -> x.group(1, 7), 1);
        NearFar y = full();
        y.pin(2, 1);
        y.read(2, 1, 0);
        due("2d: a PIN without a place is RESIDENT no more", () -> y.group(2, 0) * 10 + y.told(10), -9);
    }

    // Terms, 3.

    private static void ordersOfThatGroupAndSegment() {
        NearFar x = eager();
        x.write(0, 0, 0, 50);
        x.write(0, 0, 1, 51);
        x.write(1, 0, 0, 60);
        reads(x, 0, 1, 0, 3);
        x.read(0, 1, 1);
        x.read(1, 1, 0);
        x.read(1, 1, 0);
        due("3: the same SEGMENT of another GROUP is another one", () -> x.told(4), 3);
        x.go(x.order(0, 3) - x.told(3));
        due("3: in flight, in BUFFER A", () -> x.where(0, 0, 0), -2);
        due("3: another SEGMENT waits where it is", () -> x.where(0, 0, 1) * 10 + x.where(0, 1, 1), 1);
        due("3: another GROUP, too", () -> x.where(1, 0, 0) * 10 + x.where(1, 1, 0), 1);
        due("3: their WORDS", () -> x.word(0, 0, 1) * 100 + x.word(1, 0, 0), 5_160);
        due("3: another PAGE stays at HOME", () -> x.where(0, 2, 0) * 10 + x.where(0, 3, 0), 23);
        due("20: ORDERS by GROUPS", () -> x.group(0, 7) * 10 + x.group(1, 7), 21);
        NearFar y = eager();
        y.read(2, 1, 3);
        y.read(0, 1, 3);
        y.go(2);
        due("3: the first one alone is in flight", () -> y.where(2, 0, 3) * 10 + y.where(0, 0, 3), -20);
    }

    private static void residentWhileOrdersWait() {
        NearFar x = eager();
        x.read(0, 1, 0);
        x.go(100);
        reads(x, 0, 0, 0, 2);
        reads(x, 0, 1, 1, 2);
        due("3: one in flight back, one waits", () -> x.told(4) * 100 + x.order(0, 1) * 10 + x.order(1, 1), 201);
        int end = x.quiet();
        x.go(x.order(0, 3) - x.told(3));
        for (int k = 0; k < 200 && x.told(4) == 2; k++) {
            x.go(1);
        }
        due("3: nothing SWAPPED, but an ORDER waits: RESIDENT stays", () -> x.group(0, 1) * 10 + x.group(0, 0), 1);
        x.go(100);
        due("3: and is turned", () -> x.group(0, 1) * 10 + x.where(0, 1, 1), 20);
        due("30: as long as told", () -> end < x.told(3) ? 1 : 0, 1);
        reads(x, 0, 0, 1, 3);
        x.go(200);
        due("3: nothing SWAPPED, none waits: NONE", () -> x.group(0, 1) * 10 + x.group(0, 0), -1);
    }

    private static void placesComeFree() {
        NearFar x = full();
        x.set(0, 1);
        x.set(1, 1);
        due("3: sixteen", () -> x.told(4), 16);
        for (int k = 0; k < 500 && x.told(4) == 16; k++) {
            x.go(1);
        }
        due("3: one at its END", () -> x.told(4) * 10 + x.told(9), 151);
        x.read(2, 5, 3);
        due("3: a place for one", () -> x.told(4) * 100 + x.order(15, 0) * 10 + x.order(15, 1), 1_623);
        x.read(3, 5, 3);
        due("3: for no other one", () -> x.told(10) * 10 + x.group(3, 0), 9);
        due("2d: RESIDENT, as it is ORDERED", () -> x.group(2, 0), 5);
    }

    private static void phasesByWhatIsFreeThen() {
        NearFar x = eager();
        x.read(0, 1, 0);
        due("3: PHASE 1 from NOW on", () -> x.order(0, 3) * 100 + x.told(6), 202);
        x.go(1);
        x.read(1, 2, 0);
        due("3: ahead of PHASE 2 FAR is another one's", () -> x.latest(0) * 100 + x.told(7), 1_112);
        x.go(1);
        due("3: PHASE 2 takes FAR at the END of PHASE 1", () -> x.order(0, 3) * 100 + x.told(7), 1_818);
        x.read(1, 2, 0);
        due("3: behind it others wait", () -> x.latest(0), 22);
        x.go(16);
        due("3: PHASE 3, at once", () -> x.order(0, 2) * 100 + x.order(0, 3), 320);
        x.go(2);
        due("3: PHASE 4, behind the other one", () -> x.order(0, 2) * 100 + x.order(0, 3), 430);
        due("15: its END", () -> x.go(10), 1);
        NearFar y = eager();
        reads(y, 1, 0, 0, 5);
        y.read(0, 1, 0);
        due("3: PHASE 1 when NEAR is FREE", () -> y.order(0, 3), 12);
    }

    private static void buffersAside() {
        NearFar x = eager();
        x.write(0, 0, 0, 5);
        x.write(0, 1, 0, 4);
        x.write(0, 1, 0, 6);
        x.go(x.order(0, 3) - x.told(3));
        x.write(0, 0, 0, 7);
        due("24: BUFFER A aside", () -> x.frame(0, 0, 0) * 10 + x.word(0, 0, 0), 57);
        x.go(x.order(0, 3) - x.told(3));
        x.write(0, 1, 0, 8);
        due("24: BUFFER B aside", () -> x.frame(0, 1, 0) * 10 + x.word(0, 1, 0), 68);
        x.go(x.order(0, 3) - x.told(3));
        due("24: NEAR has BUFFER B", () -> x.frame(0, 0, 0) * 10 + x.frame(0, 1, 0), 86);
        x.write(0, 1, 0, 9);
        due("3: written NEAR, there at once", () -> x.frame(0, 0, 0), 9);
        x.go(x.order(0, 3) - x.told(3));
        due("24: FAR has BUFFER A", () -> x.frame(0, 0, 0) * 10 + x.frame(0, 1, 0), 97);
    }

    // Terms, 4.

    private static void textsCut() {
        NearFar x = new NearFar();
        feed(x, "votes<10000");
        due("4: the first n bytes alone", () -> x.rule(10), 1);
        feed(x, "votes<10000");
        due("4: one byte more", () -> x.rule(11), -8);
        feed(x, "wait 12;wait 5;");
        due("5: the first n bytes alone", () -> x.work(8) + x.told(3), 12);
        feed(x, "wait 12;wait 5;");
        due("5: cut in a STEP", () -> x.work(12), -9);
        due("6: at the length", x::fault, 12);
        feed(x, "wait 12;wait 5;");
        due("5: cut in a number", () -> x.work(6), -9);
        due("6: at the length, behind it", x::fault, 6);
        feed(x, "votes > 1 andplain=0");
        due("4: cut in a word", () -> x.rule(12), -9);
        due("6: at its first byte", x::fault, 10);
        feed(x, "votes > 1 andplain=0");
        due("4: a word as long as letters stand there", () -> x.rule(20), -9);
        due("6: its first byte", x::fault, 10);
        x.feed(-1, -1, -1, -1, -1);
        due("4: bytes of 255", () -> x.rule(1) * 10 + x.fault(), -90);
    }

    private static void faultOfWork(NearFar x, String text, int kind, int place) {
        due("5: fault of '" + text + "'", () -> work(x, text), kind - 10);
        due("6: its place in '" + text + "'", x::fault, place);
    }

    private static void textsSpaced() {
        NearFar x = new NearFar();
        due("4: blanks ahead of words, numbers, signs, at the end",
                () -> work(x, "  again  2  [  write  0  1  2  3  ;  ]  ;  "), 2);
        due("4: none at all", () -> work(x, "again2[read0 0 2;];wait9;flush;"), 2);
        due("4: zeros ahead", () -> work(x, "again 00002[read 00 01 0002;];wait 0009;"), 2);
        faultOfWork(x, "wait 1 2;", 1, 7);
        faultOfWork(x, "re ad 0 0 0;", 1, 0);
        faultOfWork(x, "read 0\t0 0;", 1, 6);
        faultOfWork(x, "read 0 0 0;\n", 1, 11);
        faultOfWork(x, "Read 0 0 0;", 1, 0);
        faultOfWork(x, "rEad 0 0 0;", 1, 0);
        faultOfWork(x, "read -1 0 0;", 1, 5);
        faultOfWork(x, "reads 0 0 0;", 1, 0);
        faultOfWork(x, "again 2[wait 1];", 1, 14);
        faultOfWork(x, "again 2(wait 1;);", 1, 7);
        faultOfWork(x, "sweep 0 1 2;", 1, 10);
        faultOfWork(x, "sweep 0 4;", 2, 8);
        faultOfWork(x, "sweep 4 0;", 2, 6);
        faultOfWork(x, "wait 1000 x", 2, 5);
        faultOfWork(x, "wait 1; wait 1000; read 9", 2, 13);
        faultOfWork(x, "again 41[" + "again 1[".repeat(6), 2, 6);
        due("5: none of these did anything", () -> x.count(0) * 100L + x.told(3), 600 + 2 + 2 + 9 + 2 + 9);
        due("5: blanks alone are no STEP", () -> work(x, "     "), 0);
        due("6: nor a FAULT", x::fault, -1);
    }

    private static int holds(NearFar x, String text) {
        rule(x, text);
        return x.so(0, 0, 0) ? 1 : 0;
    }

    /** All that four comparisons can be, tied in each way that brings them together otherwise. */
    private static void tiesOfRules() {
        for (int bits = 0; bits < 16; bits++) {
            boolean a = (bits & 1) != 0;
            boolean b = (bits & 2) != 0;
            boolean c = (bits & 4) != 0;
            boolean d = (bits & 8) != 0;
            tied("A or B or C or D", bits, a || b || c || d);
            tied("A and B and C and D", bits, a && b && c && d);
            tied("A and B or C and D", bits, a && b || c && d);
            tied("A or B and C or D", bits, a || b && c || d);
            tied("A or B or C and D", bits, a || b || c && d);
            tied("A and B and C or D", bits, a && b && c || d);
            tied("(A or B) and (C or D)", bits, (a || b) && (c || d));
            tied("A and (B or C or D)", bits, a && (b || c || d));
            tied("A or B and (C or D)", bits, a || b && (c || d));
            tied("A and (B or C and D)", bits, a && (b || c && d));
            tied("(A or B or C) and D", bits, (a || b || c) && d);
            tied("not A or B and not (C or D)", bits, !a || b && !(c || d));
            tied("not (A and (B or not (C and D)))", bits, !(a && (b || !(c && d))));
        }
    }

    private static void tied(String form, int bits, boolean want) {
        String text = form;
        for (int k = 0; k < 4; k++) {
            text = text.replace(String.valueOf((char) ('A' + k)), (bits >> k & 1) != 0 ? "1=1" : "1=0");
        }
        NearFar x = new NearFar();
        String told = text;
        due("4: signs of " + told, () -> rule(x, told), 4);
        due("4: " + told, () -> x.so(0, 0, 0) ? 1 : 0, want ? 1 : 0);
    }

    private static void signsAtTheirEdges() {
        NearFar x = new NearFar();
        String[] so = {"2>1", "1=1", "1<2", "not 2<1", "not 1<1", "not 1>1", "not 1=2", "1-2<0", "0-1+1=0", "9999-9999=0",
            "1=2 or 1=1", "1=1 or 1=2", "not (1=2 or 2=1)", "not (1=1 and not 1=1)", "1=1 and not 1=2", "1=1 or 1=1 and 1=2"};
        String[] not = {"1>1", "1>2", "1=2", "1<1", "2<1", "not 1=1", "not 1<2", "not 2>1", "1=2 or 2=1", "1=2 and 1=1",
            "1=1 and 1=2", "1=1 and not 1=1", "not (1=1)", "not (1=1 or 1=2)", "not (1=2 or 1=1)", "not 1=2 and 1=2"};
        for (String text : so) {
            due("4: so, '" + text + "'", () -> holds(x, text), 1);
        }
        for (String text : not) {
            due("4: not so, '" + text + "'", () -> holds(x, text), 0);
        }
    }

    private static void textsFull() {
        NearFar x = new NearFar();
        String signs = "0=0or".repeat(19) + "(0=0)";
        due("4: 20 S, the last one open", () -> rule(x, signs), 20);
        due("4: a 21st S, open", () -> rule(x, "0=0or".repeat(20) + "(0=0)"), -7);
        due("6: at it", x::fault, 102);
        due("4: 20 S stay", () -> x.told(17), 20);
        due("4: six open", () -> rule(x, "((((((0=0))))))"), 1);
        due("4: six open, again and again", () -> rule(x, "((((((0=0)))or((0=0)))))and((((((0=0))))))"), 3);
        due("4: a seventh, behind a closed one", () -> rule(x, "((((((0=0))and(((0=0)"), -7);
        due("6: at it", x::fault, 16);
        due("4: 9,999 and 0", () -> rule(x, "9999>0 and 0<9999"), 2);
        due("4: that is so", () -> x.so(0, 0, 0) ? 1 : 0, 1);
        String sum = "9999" + "+9999".repeat(22) + ">0";
        due("4: long sums", () -> rule(x, sum) * 10 + (x.so(0, 0, 0) ? 1 : 0), 11);
        String less = "0" + "-9999".repeat(22) + "<0";
        due("4: below 0", () -> rule(x, less) * 10 + (x.so(0, 0, 0) ? 1 : 0), 11);
        String pluses = "0" + "+1".repeat(58) + "=58";
        due("4: as many U as there is room for", () -> rule(x, pluses) * 10 + (x.so(0, 0, 0) ? 1 : 0), 11);
        String work = "again 1[".repeat(5) + "write 3 3 3 99999999;" + "];".repeat(5) + "wait 1;".repeat(18) + "   ";
        due("5: 200 bytes", () -> work.length(), 200);
        due("5: five open, all STEPS", () -> work(x, work) * 1_000 + x.told(3), 1_019);
        due("5: five open, again and again", () -> work(x, ("again 1[".repeat(5) + "];".repeat(5)).repeat(4)), 0);
        due("5: as many STEPS as there is room for", () -> work(x, "flush;".repeat(33) + "  "), 0);
        due("5: as many agains", () -> work(x, "again0[];".repeat(22)), 0);
    }

    private static void stepsCounted() {
        NearFar x = new NearFar();
        x.shape(4, 3, 8);
        x.set(5, 0);
        // 1 + 5 * 11 = 56 STEPS, 400 ACCESSES; 1 + 38 * 51 = 1,939: 1,995 STEPS. Five more begin: 4 + 9 TICKS.
        String text = "again 5[again 10[sweep 0 0;];];again 38[again 25[wait 1;wait 1;];];wait 1;wait 1;wait 1;wait 1;wait 9;wait 7;";
        due("4: a sweep is one STEP", () -> work(x, text), 400);
        due("4: 2,000 STEPS", () -> x.told(3), 38 * 50 + 4 + 9);
        NearFar y = new NearFar();
        // "again 0" is a STEP: 1 + 40 * 49 = 1,961 with 40 * 24 * 2 of these; 38 more, then the 2,000th waits.
        String none = "again 40[again 24[again 0[wait 9;];again 0[];];];again 1[];again 37[again 0[];];";
        due("4: again 0 is a STEP", () -> work(y, none + "wait 3;"), 0);
        due("4: 1 + 1 + 37 behind 1,961: 2,000; it did not wait", () -> y.told(3), 0);
        String oneLess = "again 40[again 24[again 0[wait 9;];again 0[];];];again 37[again 0[];];";
        due("4: one less", () -> work(y, oneLess + "wait 3;wait 5;") + y.told(3), 3);
        NearFar z = new NearFar();
        z.set(5, 0);
        // 1 + 40 * 49 = 1,961 flushes and agains; then 39 reads, no 40th.
        due("4: a flush is a STEP, and a read", () -> work(z, "again 40[again 24[flush;flush;];];again 40[read 0 0 0;];"), 38);
    }

    private static void accessesCounted() {
        NearFar x = new NearFar();
        x.set(5, 0);
        String all = "again 40[again 10[read 0 0 0;];];";
        due("4: 400 ACCESSES, and on", () -> work(x, all + "wait 5;flush;wait 6;") * 100 + x.told(3), 40_011);
        due("4: a 401st: it ends", () -> work(x, all + "wait 5;write 0 0 0 7;wait 6;") * 100 + x.told(3), 40_016);
        due("4: it is not made", () -> x.word(0, 0, 0) * 1_000 + x.count(0), 800);
        due("4: a 401st in a sweep, at its first", () -> work(x, all + "sweep 0 0;wait 6;") * 100 + x.told(3), 40_016);
        due("4: the next WORK has 400 again", () -> work(x, all) + x.count(0), 400 + 1_600);
    }

    private static void workAtTheEndOfTheClock() {
        NearFar x = eager();
        goTo(x, 999_950);
        x.write(0, 1, 0, 5);
        x.go(35);
        due("5: SWAPPED", () -> x.told(8), 1);
        due("5: a flush that would end too late: it ends", () -> work(x, "flush;wait 1;write 0 0 0 7;"), 0);
        due("5: nothing of it is done", () -> x.told(3) * 100L + x.told(8) * 10 + x.told(4), 99_998_510);
        due("5: nothing is written", () -> x.word(0, 0, 0), 0);
        due("5: no refused call", () -> x.status(2), 0);
        x.set(5, 99);
        due("5: by PACE, behind the ACCESS", () -> work(x, "write 0 0 1 7;write 0 0 1 8;") * 10 + x.word(0, 0, 1), 17);
        due("5: in a sweep", () -> work(x, "sweep 0 2;"), 1);
        due("5: it stands", () -> x.told(3), 999_985);
        x.set(5, 15);
        due("5: by PACE to the end", () -> work(x, "read 0 0 0;read 0 0 0;") + x.told(3), 1_000_002);
        due("5: wait at the end", () -> work(x, "wait 1;read 0 0 0;"), 0);
        x.set(5, 0);
        due("5: PACE 0 at the end", () -> work(x, "sweep 1 0;sweep 1 0;wait 1;sweep 1 0;"), 8);
        due("5: no more", () -> x.told(3), 1_000_000);
    }

    // Promises 3 to 8

    private static void tapeAtItsEdges() {
        NearFar x = new NearFar();
        due("4: n is 0, no TAPE", () -> x.rule(0), 0);
        due("5: n is 0, no TAPE", () -> x.work(0), 0);
        due("7: n is 1, no TAPE", () -> x.other(1, 1), UNFIT);
        due("4: n is 1, no TAPE", () -> x.rule(1), UNFIT);
        feed(x, "wait 1; wait 1; wait");
        due("5: n is 21 of 20", () -> x.work(21), UNFIT);
        due("5: n is 20 of 20", () -> x.work(20), -9);
        due("18: it is empty", () -> x.told(18), 0);
        feed(x, " ".repeat(300));
        due("3: 300 bytes", () -> x.told(18), 300);
        due("3: no more", () -> x.feed(0, 0, 0, 0, 0), -1);
        due("4: n is 121", () -> x.rule(121), UNFIT);
        due("5: n is 201", () -> x.work(201), UNFIT);
        due("7: n is 121", () -> x.other(121, 1), UNFIT);
        due("4: n is far above", () -> x.rule(Integer.MAX_VALUE), UNFIT);
        due("5: n is far below", () -> x.work(Integer.MIN_VALUE), UNFIT);
        due("3: the TAPE stays", () -> x.told(18), 300);
        due("5: n is 200", () -> x.work(200), 0);
        due("3: empty, there is room again", () -> x.feed(0, 0, 0, 0, 0), 20);
        due("4: n is 120, more than 20", () -> x.rule(120), UNFIT);
        due("38: refused", () -> x.status(1), 9);
    }

    private static void otherAtItsEdges() {
        NearFar x = new NearFar();
        reads(x, 0, 1, 0, 6);
        due("7: 120 bytes", () -> other(x, "votes > 0" + " ".repeat(111), 50), -8);
        feed(x, "votes > 0" + " ".repeat(111));
        due("7: GAP 0", () -> x.other(9, 0), UNFIT);
        due("7: GAP 100", () -> x.other(9, 100), UNFIT);
        due("7: the TAPE stays", () -> x.told(18), 120);
        due("7: GAP 99", () -> x.other(9, 99), -8);
        due("7: the TAPE is empty", () -> x.told(18), 0);
        due("7: GAP 1", () -> other(x, "1=2", 1), 0 - (x.run(3, 2, 1, 0) - 6 * 6 - 5 * (1 + 2 + 3 + 4 + 5)));
        due("7: a FAULT empties the TAPE, too", () -> other(x, "1=", 1) + 0L * x.told(18), 1 - 1_000_000_010);
        due("7: it does", () -> x.told(18), 0);
        due("7: no RULE is set by it", () -> x.told(17), 0);
        rule(x, "1=2");
        due("7: less those of the RULE there is, by LEAST no more", () -> other(x, "votes > 2", 50), -10);
        due("7: the RULE stays, at a FAULT too", () -> other(x, "2=", 1) + 0L, 1 - 1_000_000_010);
        due("7: it is the same", () -> x.told(17) * 10 + (x.so(0, 1, 0) ? 1 : 0), 10);
        x.set(3, 0);
        // SIZE 0, GAP 50: 6, then five MISSES: 2 + 2 each; never SWAPPED: 36.
        due("7: SIZE as it is", () -> other(x, "votes > 0", 50), 6 + 5 * 4 - 36);
    }

    private static void thoughtIsOfNow() {
        NearFar x = new NearFar();
        x.set(0, 9);
        due("29: NT as it is", () -> x.would(0, 0, 0, 0), 9);
        x.set(1, 11);
        due("29: FT as it is", () -> x.would(0, 1, 0, 0), 11);
        x.set(2, 1);
        due("8: LEAST as it is", () -> x.so(0, 1, 0) ? 1 : 0, 1);
        x.set(2, 2);
        due("8: LEAST 2", () -> x.so(0, 1, 0) ? 1 : 0, 0);
        x.read(0, 1, 0);
        due("8: 2 VOTES", () -> x.so(0, 1, 3) ? 1 : 0, 1);
        due("8: 0 VOTES", () -> x.so(0, 2, 3) ? 1 : 0, 0);
        x.set(6, 10);
        x.go(10);
        due("8: halved to 0, then 1", () -> x.so(0, 1, 0) ? 1 : 0, 0);
        x.read(0, 1, 0);
        x.go(9);
        due("8: not halved, then 2", () -> x.so(0, 1, 0) ? 1 : 0, 1);
        x.set(4, 1);
        x.read(3, 0, 0);
        due("8: LIMIT as it is", () -> (rule(x, "limit=3") * 10) + (x.so(0, 0, 0) ? 1 : 0), 11);
        due("8: also of a GROUP that is shut", () -> x.so(3, 2, 0) ? 1 : 0, 1);
        due("8: also with another PIN", () -> x.pin(1, 2) * 10 + (x.so(1, 1, 0) ? 1 : 0), -9);
        NearFar z = new NearFar();
        z.set(2, 2);
        z.set(6, 10);
        z.go(15);
        z.read(0, 1, 0);
        z.go(9);
        due("8: 9 TICKS since the ACCESS ahead: not halved", () -> z.so(0, 1, 0) ? 1 : 0, 1);
        NearFar y = eager();
        y.read(0, 1, 0);
        y.read(1, 1, 0);
        y.go(500);
        y.set(3, 1);
        y.read(1, 2, 2);
        y.go(100);
        due("29: a HIT", () -> y.would(1, 2, 2, 2) * 100 + y.would(1, 2, 2, 0), 106);
        due("29: a MISS", () -> y.would(0, 2, 2, 2) * 100 + y.would(0, 2, 2, 0), 208);
        due("29: a MISS, NEAR twice", () -> y.would(0, 1, 0, 0) * 100 + y.would(0, 0, 1, 1), 400);
        due("29: PLAIN", () -> y.would(2, 2, 2, 2), 0);
        due("29: TAGS stay", () -> y.tag(0), 1);
        rule(y, "hits=1 and misses=1");
        due("8: a HIT in thought", () -> y.so(1, 1, 1) ? 1 : 0, 1);
        due("8: a MISS in thought", () -> y.so(0, 1, 1) ? 1 : 0, 0);
    }

    private static void thoughtChangesNothing() {
        NearFar x = eager();
        x.set(6, 7);
        x.set(4, 9);
        x.write(0, 1, 0, 3);
        x.write(1, 2, 1, 4);
        x.go(5);
        x.read(0, 0, 0);
        String before = look(x);
        x.so(0, 1, 1);
        x.would(0, 1, 0, 0);
        x.would(1, 0, 1, 2);
        x.quiet();
        x.split(1_000, 0);
        x.run(1, 8, 99, 0);
        x.tune(3, 1);
        x.enough(3);
        x.ideal();
        x.needs(0, 2);
        x.print();
        x.majority(0);
        other(x, "votes>1", 9);
        due("5: asked, nothing stays changed", () -> look(x).equals(before) ? 1 : 0, 1);
    }

    // Promises 14 to 22

    private static void burstAndGo() {
        NearFar x = new NearFar();
        due("14: one", () -> x.burst(0, 1, 0, 1) * 10 + x.told(3), 61);
        due("14: below 1", () -> x.burst(0, 1, 0, -1), UNFIT);
        due("14: far above", () -> x.burst(0, 1, 0, Integer.MAX_VALUE), UNFIT);
        x.go(500);
        NearFar y = eager();
        // At 0 FAR till 6, NEAR till 2; at 1 a MISS 2 to 4, FAR 12; at 2 PHASE 2 takes FAR first, till 18: FAR 24.
        due("14: an ORDER goes on between", () -> y.burst(0, 1, 0, 3), 6 + 11 + 22);
        due("14: its PHASE", () -> y.order(0, 2) * 100 + y.order(0, 3), 218);
        goTo(x, 990_000);
        due("15: 10,000 to the end", () -> x.go(10_000) + x.told(3), 1_000_000);
        due("15: no TICK more", () -> x.go(1), LATE);
        due("14: none more", () -> x.burst(0, 0, 0, 1), LATE);
        due("14: ahead of that, no such SEGMENT", () -> x.burst(0, 0, 4, 1), MISSING);
        due("16: nothing SWAPPED: no TICK more", x::flush, 0);
        due("10: an ACCESS at the end", () -> x.read(0, 1, 0) + x.latest(0), 6);
        due("17: FREE above it", () -> x.told(7), 1_000_006);
        due("15: ticks below 1", () -> x.go(0), UNFIT);
        due("15: far below", () -> x.go(Integer.MIN_VALUE), UNFIT);
        due("15: far above", () -> x.go(Integer.MAX_VALUE), UNFIT);
        due("38: refused", () -> x.status(0) * 100 + x.status(1) * 10 + x.status(2), 100 + 50 + 2);
    }

    private static void flushOfAll() {
        NearFar x = eager();
        x.shape(8, 1, 8);
        for (int g = 0; g < 8; g++) {
            for (int s = 0; s < 8; s++) {
                x.write(g, 1, s, 8 * g + s + 1);
                x.go(20);
            }
        }
        x.go(1_000);
        due("16: all 64 are SWAPPED", () -> x.told(8), 64);
        long print = x.print();
        due("16: 64 times 16 TICKS", x::flush, 64 * 16);
        due("17: at their END", () -> x.told(9), 128);
        due("17: none was wanting", () -> x.told(10), 0);
        due("16: nothing is SWAPPED", () -> x.told(8) * 10 + x.told(4), 0);
        due("37: no WORD is lost", x::print, print);
        due("24: all at HOME", () -> x.frame(7, 1, 7) * 100 + x.frame(0, 1, 0), 6_401);
        NearFar y = full();
        // 16 ORDERS are there; FAR is FREE at 96 and, by 14 MISSES and 2 PLAIN ones, NEAR at 2 (the ORDER) and more.
        int quiet = y.quiet();
        due("16: the ORDERS there, then 16 more", y::flush, quiet + 16 * 16);
        due("16: all are home", () -> y.told(8) * 1_000 + y.told(9), 32);
        NearFar z = eager();
        z.read(0, 1, 0);
        z.go(100);
        reads(z, 0, 0, 0, 2);
        due("16: ORDERED already: once", () -> z.told(4) * 10 + z.group(0, 1), 11);
        int end = z.quiet();
        due("16: till it is at its END", () -> z.flush() + 100, end);
        due("17: two were at their END", () -> z.told(9), 2);
        due("16: a new object", () -> new NearFar().flush(), 0);
        NearFar w = eager();
        goTo(w, 999_920);
        w.read(3, 1, 2);
        w.go(50);
        reads(w, 3, 0, 2, 2);
        // From 999,970 on: a MISS and PHASE 1 of NEAR till 74, FAR of others till 84, PHASES till 90, 92, 98.
        due("16: what is on its way home is not turned again", () -> w.flush() * 10 + w.told(8), 280);
        due("16: in time", () -> w.told(3), 999_998);
    }

    private static void majorityAndIdeal() {
        NearFar x = new NearFar();
        due("22: none of none", () -> x.majority(0), -1);
        due("35: none", x::ideal, 0);
        x.read(0, 0, 0);
        due("22: PAGE 0, of one", () -> x.majority(0), 0);
        x.read(0, 3, 0);
        due("22: one of two", () -> x.majority(0), -1);
        x.read(0, 3, 0);
        due("22: two of three", () -> x.majority(0), 3);
        due("35: the best one", x::ideal, 2);
        x.read(0, 0, 1);
        x.read(0, 0, 2);
        due("35: PAGE 0 is the best one", x::ideal, 3);
        due("22: three of five", () -> x.majority(0), 0);
        due("22: no GROUP below", () -> x.majority(-1), MISSING);
        due("22: the last GROUP", () -> x.majority(3), -1);
        due("22: none behind it", () -> x.majority(4), MISSING);
    }

    // Promises 28 to 36

    private static void historyIsFull() {
        NearFar x = new NearFar();
        x.read(1, 1, 1);
        x.burst(0, 0, 0, 50);
        x.burst(0, 0, 0, 13);
        due("28: 64, the oldest", () -> x.history(63, 0), 1);
        due("28: no 65th", () -> x.history(64, 0), MISSING);
        due("32: the oldest counts", () -> x.run(99, 2, 99, 1), 63);
        x.write(2, 2, 2, 2);
        due("28: it is gone", () -> x.history(63, 0), 0);
        due("28: the latest one, a write", () -> x.history(0, 0) * 1_000 + x.history(0, 1) * 100 + x.history(0, 2) * 10 + x.history(0, 3), 2_221);
        due("32: 64 at most, 63 of NEAR", () -> x.run(99, 2, 99, 1), 63);
        x.read(0, 0, 0);
        due("32: still 63", () -> x.run(99, 2, 99, 1), 63);
        x.burst(0, 0, 0, 50);
        x.burst(0, 0, 0, 50);
        due("32: all of NEAR", () -> x.run(99, 2, 99, 1) * 1_000 + x.run(99, 2, 99, 0), 64_128);
        due("35: all", x::ideal, 64);
        due("28: far above", () -> x.history(Integer.MAX_VALUE, 0), MISSING);
        due("28: far below", () -> x.history(Integer.MIN_VALUE, 0), MISSING);
    }

    private static void runsAtTheirLastAccess() {
        NearFar x = new NearFar();
        x.read(0, 1, 0);
        due("32: one ACCESS, its ORDER is not at its END", () -> x.run(1, 2, 99, 2) * 10 + x.run(1, 2, 99, 4), 0);
        x.read(0, 1, 0);
        // FAR till 6; NEAR till 2, FAR till 12, NEAR till 14, FAR till 20.
        due("32: a TICK ahead of its END", () -> x.run(1, 2, 19, 2) * 10 + x.run(1, 2, 19, 4), 0);
        due("32: at its END", () -> x.run(1, 2, 20, 2) * 10 + x.run(1, 2, 20, 4), 11);
        due("32: it is read NEAR then", () -> x.run(1, 2, 20, 1) * 100 + x.run(1, 2, 20, 0), 110);
        due("32: from BUFFER B ahead of it", () -> x.run(1, 2, 13, 0), 6 + 2 + 1 + 1);
        due("32: LEAST 2: at the last ACCESS", () -> x.run(2, 2, 99, 2), 0);
        due("33: GAP 99", () -> x.tune(99, 0) * 100 + x.tune(99, 1), 110);
    }

    private static void runsBeginAsBehindShape() {
        NearFar x = new NearFar();
        x.set(0, 3);
        x.set(1, 10);
        x.read(0, 0, 0);
        x.read(0, 1, 0);
        due("32: NT and FT as they are", () -> x.run(99, 2, 99, 0), 13);
        x.set(0, 4);
        due("33: NT as it is now", () -> x.tune(99, 1), 14);
        NearFar y = new NearFar();
        y.set(4, 1);
        reads(y, 0, 0, 0, 4);
        y.pin(3, 2);
        due("2e: all are shut", () -> y.told(5), 0);
        rule(y, "1=2");
        y.set(4, 64);
        reads(y, 3, 1, 0, 2);
        y.set(4, 1);
        due("8: the RULE is not so", () -> y.so(3, 1, 0) ? 1 : 0, 0);
        y.would(3, 1, 0, 0);
        due("32: no RULE, no PINS, WINDOW 0, all OPEN", () -> y.run(2, 2, 50, 4) * 10 + y.run(1, 2, 50, 2), 1);
        due("33: by LEAST 1: 4 * 2 + 6 + 4", () -> y.tune(50, 0) * 100 + y.tune(50, 1), 118);
        due("34: one TAG is as good as eight", () -> y.enough(50), 0);
        y.read(3, 1, 0);
        due("32: at its END at the third one", () -> y.run(2, 2, 50, 4) * 10 + y.run(2, 2, 50, 2), 11);
        y.set(2, 1);
        due("34: LEAST as it is, no RULE", () -> y.enough(50), 1);
        due("32: the clock, LIMIT (1 by the third one, of FAR), the RULE stay",
                () -> y.told(3) * 100 + y.told(5) * 10 + y.told(17), 11);
        NearFar z = new NearFar();
        z.set(6, 30);
        z.go(500);
        reads(z, 0, 1, 0, 3);
        due("32: AGE 30, GAP 30: never 2 VOTES", () -> z.run(2, 2, 30, 0) * 10 + z.run(2, 2, 30, 4), 180);
        due("32: AGE 30, GAP 29: 2 VOTES", () -> z.run(2, 2, 29, 0) * 10 + z.run(2, 2, 29, 4), 6 * 10 + 6 * 10 + 4 * 10 + 1);
    }

    private static void tuneAtItsEdges() {
        NearFar x = new NearFar();
        x.shape(1, 1, 8);
        reads(x, 0, 1, 1, 10);
        reads(x, 0, 1, 0, 9);
        reads(x, 0, 0, 1, 5);
        // 19 of FAR, the k-th one 6 + 5k; 5 of NEAR, 2, 3, 4, 5, 6: nothing is ORDERED by LEAST 20.
        due("33: 20 at most is told", () -> x.tune(1, 0) * 10_000 + x.tune(1, 1), 200_000 + 969 + 20);
        x.shape(1, 1, 8);
        reads(x, 0, 1, 1, 10);
        reads(x, 0, 1, 0, 10);
        reads(x, 0, 0, 1, 5);
        due("32: 21 would be the best", () -> x.run(21, 2, 1, 0), 6 * 20 + 5 * 190 + 20);
        due("33: it is not asked", () -> x.tune(1, 0) * 10_000 + x.tune(1, 1), 190_000 + x.run(19, 2, 1, 0));
        due("33: GAP 0", () -> x.tune(0, 0), UNFIT);
        due("33: GAP 100", () -> x.tune(100, 1), UNFIT);
        due("33: what -1", () -> x.tune(1, -1), UNFIT);
        due("33: what 2", () -> x.tune(1, 2), UNFIT);
        x.set(3, 0);
        due("33: SIZE as it is", () -> x.tune(99, 1), x.run(x.tune(99, 0), 0, 99, 0));
        NearFar y = new NearFar();
        due("33: no ACCESS", () -> y.tune(1, 0) * 10 + y.tune(1, 1), 10);
        y.read(0, 0, 0);
        due("33: all alike: the least", () -> y.tune(1, 0) * 10 + y.tune(1, 1), 12);
    }

    private static void enoughAtItsEdges() {
        NearFar x = eager();
        x.shape(8, 1, 1);
        for (int k = 0; k < 24; k++) {
            x.read(k % 8, 1, 0);
        }
        due("34: eight GROUPS by turns", () -> x.enough(99), 8);
        due("32: 8 MISSES with SIZE 8", () -> x.run(1, 8, 99, 3), 8);
        due("32: 16 with SIZE 7", () -> x.run(1, 7, 99, 3), 16);
        due("34: GAP 1", () -> x.enough(1), 8);
        due("34: GAP 0", () -> x.enough(0), UNFIT);
        due("34: GAP 100", () -> x.enough(100), UNFIT);
        x.set(2, 99);
        due("34: no MISSES: 0", () -> x.enough(1), 0);
        due("34: none", () -> new NearFar().enough(1), 0);
        enoughWithFewer();
    }

    /** MISSES by SIZE 0 to 8: 45, 24, 17, 15, 11, 7, 9, 8, 8 (late MISSES keep places taken, so that ORDERS are none). */
    private static void enoughWithFewer() {
        NearFar x = eager();
        x.shape(8, 7, 8);
        x.set(0, 26);
        x.set(1, 15);
        String accesses = "010 010 012 013 014 015 016 310 010 111 112 113 114 115 017 210 620 420 621 001 110 200 421 100 "
                + "000 000 000 000 001 000 000 011 610 400 310 200 000 011 200 000 000 000 000 000 200 410 200 510 300 200 "
                + "510 600 710 700 000";
        for (String a : accesses.split(" ")) {
            x.read(a.charAt(0) - '0', a.charAt(1) - '0', a.charAt(2) - '0');
        }
        int[] misses = {45, 24, 17, 15, 11, 7, 9, 8, 8};
        for (int size = 0; size < misses.length; size++) {
            int z = size;
            due("32: MISSES with SIZE " + z, () -> x.run(1, z, 20, 3), misses[z]);
        }
        due("34: the least SIZE with no more than 8 has fewer, some above it have more", () -> x.enough(20), 5);
    }

    private static void needsAtItsEdges() {
        NearFar x = new NearFar();
        x.set(2, 99);
        due("36: LEAST 99", () -> x.needs(0, 0) * 100 + x.needs(3, 3), 9_999);
        x.set(2, 1);
        due("36: LEAST 1", () -> x.needs(0, 0) * 100 + x.needs(3, 3), 101);
        reads(x, 0, 1, 0, 2);
        due("36: the CANDIDATE has more than LEAST", () -> x.needs(0, 1), 0);
        due("36: another one", () -> x.needs(0, 0) * 10 + x.needs(0, 2), 33);
        x.set(2, 2);
        due("36: just LEAST", () -> x.needs(0, 1), 0);
        x.set(6, 10);
        x.go(9);
        due("36: not halved yet", () -> x.needs(0, 1) * 10 + x.needs(0, 2), 4);
        x.go(1);
        due("36: halved first", () -> x.needs(0, 1) * 10 + x.needs(0, 2), 13);
        x.go(10);
        due("36: halved to 0, the CANDIDATE still", () -> x.needs(0, 1) * 10 + x.needs(0, 2), 22);
        due("36: it changes nothing", () -> x.group(0, 3), 2);
        due("36: no PAGE", () -> x.needs(0, 4), MISSING);
        due("36: no PAGE below", () -> x.needs(0, -1), MISSING);
        due("36: no GROUP", () -> x.needs(4, 0), MISSING);
    }

    private static void splitAtItsEdges() {
        NearFar x = new NearFar();
        x.set(0, 1);
        x.set(1, 1);
        due("31: 1,000, alike", () -> x.split(1_000, 0) * 1_000 + x.split(1_000, 1), 500_500);
        due("31: 999, of like good ones the most", () -> x.split(999, 0) * 1_000 + x.split(999, 1), 500_500);
        due("31: one", () -> x.split(1, 0) * 10 + x.split(1, 1), 11);
        x.set(1, 99);
        due("31: 98: all to NEAR", () -> x.split(98, 0) * 1_000 + x.split(98, 1), 98_098);
        due("31: 99: all to NEAR, alike with 98", () -> x.split(99, 0) * 1_000 + x.split(99, 1), 99_099);
        due("31: 100: one to FAR", () -> x.split(100, 0) * 1_000 + x.split(100, 1), 99_099);
        x.set(0, 99);
        due("31: 1,000 of 99", () -> x.split(1_000, 0) * 100_000L + x.split(1_000, 1), 50_049_500);
        x.set(1, 1);
        due("31: 98: none to NEAR", () -> x.split(98, 0) * 1_000 + x.split(98, 1), 98);
        due("31: 99: one to NEAR is as good as none", () -> x.split(99, 0) * 1_000 + x.split(99, 1), 1_099);
        due("31: 100: one to NEAR", () -> x.split(100, 0) * 1_000 + x.split(100, 1), 1_099);
        due("31: what 2", () -> x.split(1, 2), UNFIT);
        due("31: below", () -> x.split(Integer.MIN_VALUE, 0), UNFIT);
        due("31: above", () -> x.split(Integer.MAX_VALUE, 0), UNFIT);
    }

    // Promises 1, 2 and 38, and all of them

    private static void shapesAtTheirEdges() {
        NearFar x = new NearFar();
        due("2: all of one", () -> x.shape(1, 1, 1), 2);
        due("10: the last WORD", () -> x.write(0, 1, 0, 5) + x.word(0, 1, 0), 5);
        due("10: no GROUP 1", () -> x.read(1, 0, 0), MISSING);
        due("10: no PAGE 2", () -> x.read(0, 2, 0), MISSING);
        due("10: no SEGMENT 1", () -> x.read(0, 0, 1), MISSING);
        due("24: no FRAME 2", () -> x.frame(0, 2, 0), MISSING);
        due("2: all of the most", () -> x.shape(8, 7, 8), 512);
        due("11: the last WORD", () -> x.write(7, 7, 7, -5) + x.word(7, 7, 7), -5);
        due("24: its FRAME", () -> x.frame(7, 7, 7), -5);
        due("23: its HOME", () -> x.where(7, 7, 7), 7);
        due("21: its PAGE", () -> x.page(7, 7), 1);
        due("10: no GROUP 8", () -> x.read(8, 0, 0), MISSING);
        due("10: no PAGE 8", () -> x.read(0, 8, 0), MISSING);
        due("10: no SEGMENT 8", () -> x.read(0, 0, 8), MISSING);
        due("38: refused since shape()", () -> x.status(0), 3);
        due("2: ways alone", () -> x.shape(1, 7, 1), 8);
        due("2: groups alone", () -> x.shape(8, 1, 1), 16);
        due("2: segments alone", () -> x.shape(1, 1, 8), 16);
        due("2: three arguments unfit: one refusal", () -> x.shape(0, 0, 0), UNFIT);
        due("38: one", () -> x.status(1), 1);
        due("2: it changed nothing", () -> x.told(0) * 100 + x.told(1) * 10 + x.told(2), 118);
    }

    private static final int[][] UNFIT_CALLS = {
        {0, 0, 1, 1}, {0, 9, 1, 1}, {0, 1, 0, 1}, {0, 1, 8, 1}, {0, 1, 1, 0}, {0, 1, 1, 9},
        {1, -1}, {1, 41}, {1, 121}, {2, -1}, {2, 41}, {2, 201}, {3, 0, 1}, {3, 41, 1}, {3, 121, 1}, {3, 1, 0}, {3, 1, 100},
        {4, -1, 1}, {4, 7, 1}, {4, 0, 0}, {4, 0, 100}, {4, 1, 0}, {4, 1, 100}, {4, 2, 0}, {4, 2, 100}, {4, 3, -1}, {4, 3, 9},
        {4, 4, -1}, {4, 4, 65}, {4, 5, -1}, {4, 5, 100}, {4, 6, -1}, {4, 6, 10_000},
        {5, 0}, {5, 51}, {6, 0}, {6, 10_001}, {7, -1}, {7, 21}, {8, -1}, {8, 9}, {9, -1}, {9, 3}, {10, -1}, {10, 10},
        {11, -1}, {11, 4}, {12, -1}, {12, 4}, {13, -1}, {13, 3}, {14, 0, 0}, {14, 1_001, 0}, {14, 1, -1}, {14, 1, 2},
        {15, 0, 0, 1, 0}, {15, 100, 0, 1, 0}, {15, 1, -1, 1, 0}, {15, 1, 9, 1, 0}, {15, 1, 0, 0, 0}, {15, 1, 0, 100, 0},
        {15, 1, 0, 1, -1}, {15, 1, 0, 1, 5}, {16, 0, 0}, {16, 100, 0}, {16, 1, -1}, {16, 1, 2}, {17, 0}, {17, 100}};

    private static long unfit(NearFar x, int[] a) {
        switch (a[0]) {
            case 0: return x.shape(a[1], a[2], a[3]);
            case 1: return x.rule(a[1]);
            case 2: return x.work(a[1]);
            case 3: return x.other(a[1], a[2]);
            case 4: return x.set(a[1], a[2]);
            case 5: return x.burst(0, 0, 0, a[1]);
            case 6: return x.go(a[1]);
            case 7: return x.told(a[1]);
            case 8: return x.count(a[1]);
            case 9: return x.latest(a[1]);
            case 10: return x.group(0, a[1]);
            case 11: return x.order(0, a[1]);
            case 12: return x.history(0, a[1]);
            case 13: return x.would(0, 0, 0, a[1]);
            case 14: return x.split(a[1], a[2]);
            case 15: return x.run(a[1], a[2], a[3], a[4]);
            case 16: return x.tune(a[1], a[2]);
            default: return x.enough(a[1]);
        }
    }

    private static long missing(NearFar x, int call, int g, int p, int s) {
        switch (call) {
            case 0: return x.so(g, p, s) ? 1 : 0;
            case 1: return x.read(g, p, s);
            case 2: return x.write(g, p, s, 7);
            case 3: return x.burst(g, p, s, 99);
            case 4: return x.where(g, p, s);
            case 5: return x.frame(g, p, s);
            case 6: return x.word(g, p, s);
            case 7: return x.would(g, p, s, 99);
            case 8: return s != 0 ? x.read(g, p, s) : x.pin(g, p);
            case 9: return s != 0 ? x.read(g, p, s) : x.page(g, p);
            case 10: return s != 0 ? x.read(g, p, s) : x.needs(g, p);
            case 11: return s != 0 || p != 0 ? x.read(g, p, s) : x.unpin(g);
            case 12: return s != 0 || p != 0 ? x.read(g, p, s) : x.group(g, 99);
            default: return s != 0 || p != 0 ? x.read(g, p, s) : x.majority(g);
        }
    }

    private static NearFar busy() {
        NearFar x = eager();
        x.set(4, 5);
        rule(x, "votes>0");
        x.write(0, 1, 0, 3);
        x.write(1, 2, 1, 4);
        x.go(5);
        x.read(0, 0, 0);
        x.pin(2, 1);
        rule(x, "votes>");
        feed(x, "wait 1;wait 1;wait 1;wait 1;");
        return x;
    }

    /** What can be asked without changing anything, status() aside. */
    private static String look(NearFar x) {
        StringBuilder b = new StringBuilder();
        for (int k = 0; k <= 20; k++) {
            // The TAPE is no matter of what is asked with a text.
            b.append(' ').append(k == 18 ? 0 : x.told(k));
        }
        for (int k = 0; k <= 8; k++) {
            b.append(' ').append(x.count(k)).append(' ').append(x.tag(k)).append(' ').append(x.latest(k % 3));
        }
        for (int g = 0; g < x.told(0); g++) {
            for (int k = 0; k < 10; k++) {
                b.append(' ').append(x.group(g, k));
            }
            for (int p = 0; p <= x.told(1); p++) {
                b.append(' ').append(x.page(g, p)).append(' ').append(x.where(g, p, 0)).append(' ').append(x.frame(g, p, 1));
            }
        }
        for (int k = 0; k < x.told(4); k++) {
            for (int what = 0; what < 4; what++) {
                b.append(' ').append(x.order(k, what));
            }
        }
        for (int k = 0; k < Math.min(64, x.count(0)); k++) {
            b.append(' ').append(x.history(k, 0)).append(x.history(k, 1)).append(x.history(k, 2)).append(x.history(k, 3));
        }
        return b.append(' ').append(x.print()).append(' ').append(x.quiet()).toString();
    }

    private static void refusedCallsChangeNothing() {
        NearFar x = busy();
        String before = look(x) + x.fault() + x.told(18);
        for (int k = 0; k < UNFIT_CALLS.length; k++) {
            int[] call = UNFIT_CALLS[k];
            due("38: unfit call " + k, () -> unfit(x, call), UNFIT);
        }
        due("38: unfit calls are counted", () -> x.status(1), UNFIT_CALLS.length);
        int[][] none = {{-1, 0, 0}, {4, 0, 0}, {0, -1, 0}, {0, 4, 0}, {0, 0, -1}, {0, 0, 4}, {8, 0, 0}, {0, 8, 0}, {0, 0, 8},
            {Integer.MIN_VALUE, 0, 0}, {0, Integer.MAX_VALUE, 0}, {0, 0, Integer.MIN_VALUE}, {-1, -1, -1}};
        for (int call = 0; call < 14; call++) {
            for (int[] a : none) {
                int which = call;
                due("38: missing, call " + call, () -> missing(x, which, a[0], a[1], a[2]), MISSING);
            }
        }
        due("38: no such ORDER", () -> x.order(x.told(4), 0), MISSING);
        due("38: no such ACCESS", () -> x.history(3, 0), MISSING);
        due("38: missing calls are counted", () -> x.status(0), 14 * none.length + 2);
        due("38: none of the third kind", () -> x.status(2), 0);
        due("38: refused, nothing changes", () -> (look(x) + x.fault() + x.told(18)).equals(before) ? 1 : 0, 1);
        NearFar y = eager();
        goTo(y, 999_970);
        y.write(0, 1, 0, 5);
        y.go(25);
        String late = look(y);
        due("38: go too late", () -> y.go(6), LATE);
        due("38: burst too late", () -> y.burst(0, 0, 0, 6), LATE);
        due("38: flush too late", y::flush, LATE);
        due("38: counted", () -> y.status(2), 3);
        due("38: too late, nothing changes", () -> look(y).equals(late) ? 1 : 0, 1);
        due("38: five TICKS are left", () -> y.go(5) + y.told(3), 1_000_000);
    }

    /** Whatever numbers come, nothing but the document's exceptions is thrown. */
    private static void anyNumbers() {
        int[] v = {Integer.MIN_VALUE, -2, -1, 0, 1, 7, 8, 9, 64, 99, 100, 1_000, 1_000_000, Integer.MAX_VALUE};
        NearFar x = busy();
        for (int a : v) {
            for (int b : v) {
                some(() -> x.shape(a, b, a) + x.shape(b, a, 1));
                some(() -> x.feed(a, b, a, b, a));
                some(() -> x.other(a, b));
                some(() -> x.set(a, b));
                some(() -> x.write(a, b, 0, a) + x.write(0, a, b, b));
                some(() -> x.pin(a, b) + x.unpin(b));
                some(() -> x.burst(0, 0, a, b) + x.burst(a, b, 0, 1));
                some(() -> x.group(a, b) + x.group(0, b));
                some(() -> x.where(a, b, 0) + x.frame(0, a, b) + x.word(a, 0, b));
                some(() -> x.order(a, b) + x.history(a, b));
                some(() -> x.would(a, b, 0, 0) + x.would(0, 0, a, b));
                some(() -> x.split(a, b) + x.tune(a, b));
                some(() -> x.run(a, b, 1, 0));
                some(() -> x.run(1, 1, a, b));
                some(() -> x.needs(a, b) + x.page(a, b));
                some(() -> x.so(a, b, 0) || x.so(0, a, b) ? 1 : 0);
            }
            some(() -> x.rule(a));
            some(() -> x.work(a));
            some(() -> x.go(a));
            some(() -> x.told(a) + x.count(a) + x.latest(a));
            some(() -> x.tag(a) + x.majority(a) + x.status(a) + x.enough(a));
            some(x::flush);
        }
    }

    /** What README.md tells of its example. */
    private static void asTheReadmeTells() {
        NearFar x = new NearFar();
        due("README: shape", () -> x.shape(2, 1, 1), 4);
        x.set(2, 2);
        due("README: write", () -> x.write(0, 1, 0, 77), 0);
        x.read(0, 1, 0);
        due("README: go", () -> x.go(30), 1);
        due("README: read", () -> x.read(0, 1, 0), 77);
        due("README: where", () -> x.where(0, 1, 0), 0);
        due("README: latest", () -> ofLatest(x), 402);
        due("README: rule", () -> rule(x, "votes > 1 and (orders < 8 or not far > 20)"), 3);
        due("README: work", () -> work(x, "again 3[read 0 1 0; sweep 1 0; wait 5;]; flush;"), 6);
    }

    private static void some(LongSupplier call) {
        String got = answer(call);
        checked++;
        if (got.startsWith("throws.") && !got.equals(MISSING) && !got.equals(UNFIT) && !got.equals(LATE)) {
            wrong++;
            System.out.println("a call with any numbers answered " + got);
        }
    }
}
