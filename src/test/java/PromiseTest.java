import java.util.function.LongSupplier;

/** For each promise of the document: ordinary inputs, the edges that it names, and wrong inputs, worked out by hand. */
public final class PromiseTest {
    private static final String MISSING = "throws.NoSuchElementException";
    private static final String UNFIT = "throws.IllegalArgumentException";
    private static final String LATE = "throws.IllegalStateException";
    private static int wrong = 0;
    private static int checked = 0;

    public static void main(String[] args) {
        newObject();
        shape();
        shapeForgetsAllElse();
        shapeForgetsMore();
        feed();
        rule();
        ruleFaults();
        ruleNames();
        work();
        workFaults();
        workEnds();
        fault();
        other();
        so();
        set();
        readAndWrite();
        writesInFlight();
        channels();
        tags();
        votes();
        swaps();
        ordersAreFull();
        otherResident();
        age();
        balance();
        balanceOrders();
        pins();
        burst();
        go();
        flush();
        flushTooLate();
        told();
        countAndLatest();
        group();
        pageAndMajority();
        whereFrameWord();
        order();
        history();
        would();
        quiet();
        split();
        run();
        tuneAndEnough();
        ideal();
        needs();
        print();
        status();
        System.out.println(wrong == 0 ? checked + " answers are as due" : wrong + " answers are not as due");
        if (wrong != 0) {
            System.exit(1);
        }
    }

    private static void due(String what, LongSupplier call, long want) {
        due(what, call, String.valueOf(want));
    }

    private static void due(String what, LongSupplier call, String want) {
        String got;
        try {
            got = String.valueOf(call.getAsLong());
        } catch (RuntimeException e) {
            got = "throws." + e.getClass().getSimpleName();
        }
        checked++;
        if (!got.equals(want)) {
            wrong++;
            System.out.println(what + " answered " + got + ", due is " + want);
        }
    }

    private static int feed(NearFar x, String text) {
        int held = 0;
        for (int from = 0; from < text.length(); from += 20) {
            int[] five = new int[5];
            for (int k = 0; k < 20; k++) {
                five[k / 4] = five[k / 4] << 8 | (from + k < text.length() ? text.charAt(from + k) : 0);
            }
            held = x.feed(five[0], five[1], five[2], five[3], five[4]);
        }
        return held;
    }

    private static int rule(NearFar x, String text) {
        feed(x, text);
        return x.rule(text.length());
    }

    private static int work(NearFar x, String text) {
        feed(x, text);
        return x.work(text.length());
    }

    private static int other(NearFar x, String text, int gap) {
        feed(x, text);
        return x.other(text.length(), gap);
    }

    private static void reads(NearFar x, int group, int page, int segment, int times) {
        for (int k = 0; k < times; k++) {
            x.read(group, page, segment);
        }
    }

    private static void goTo(NearFar x, int tick) {
        while (x.told(3) < tick) {
            x.go(Math.min(10_000, tick - x.told(3)));
        }
    }

    private static void newObject() {
        NearFar x = new NearFar();
        int[] first = {4, 3, 4, 0, 0, 4, 0, 0, 0, 0, 0, 2, 6, 3, 2, 0, 1, 0, 0, 0, 0};
        for (int k = 0; k < first.length; k++) {
            int what = k;
            due("1: told " + k, () -> x.told(what), first[k]);
        }
        int[] ofGroup = {-1, 0, 0, 0, 0, 1, -1, 0, -1, 0};
        for (int k = 0; k < ofGroup.length; k++) {
            int what = k;
            due("1: group 3, " + k, () -> x.group(3, what), ofGroup[k]);
        }
        due("1: fault", x::fault, -1);
        due("1: latest", () -> x.latest(2), -1);
        due("1: tag", () -> x.tag(0), -1);
        due("1: NONE", () -> NearFar.NONE, -1);
    }

    private static void shape() {
        NearFar x = new NearFar();
        due("2: least", () -> x.shape(1, 1, 1), 2);
        due("2: most", () -> x.shape(8, 7, 8), 512);
        due("2: limit", () -> x.told(5), 8);
        due("2: last word", () -> x.word(7, 7, 7), 0);
        due("2: no group", () -> x.shape(0, 1, 1), UNFIT);
        due("2: nine groups", () -> x.shape(9, 1, 1), UNFIT);
        due("2: no way", () -> x.shape(1, 0, 1), UNFIT);
        due("2: eight ways", () -> x.shape(1, 8, 1), UNFIT);
        due("2: no segment", () -> x.shape(1, 1, 0), UNFIT);
        due("2: nine segments", () -> x.shape(1, 1, 9), UNFIT);
        due("2: below", () -> x.shape(Integer.MIN_VALUE, 1, 1), UNFIT);
        due("2: a refused one changes nothing", () -> x.told(0), 8);
        due("2: ways", () -> x.shape(2, 5, 3), 36);
        due("2: told ways", () -> x.told(1), 5);
        due("2: told segments", () -> x.told(2), 3);
    }

    private static void shapeForgetsAllElse() {
        NearFar x = new NearFar();
        int[] kept = {5, 7, 1, 4, 9, 3, 50};
        for (int k = 0; k < kept.length; k++) {
            x.set(k, kept[k]);
        }
        rule(x, "votes > 0 or limit = 9");
        x.pin(1, 2);
        x.write(1, 2, 0, 9);
        x.write(0, 1, 0, 9);
        x.go(500);
        x.read(1, 2, 1);
        due("2: before, swapped", () -> x.told(8), 2);
        due("2: before, pins", () -> x.told(20), 2);
        feed(x, "tape");
        x.rule(2);
        feed(x, "tape");
        due("2: before, fault", x::fault, 0);
        due("2: before, refused", () -> x.told(21), UNFIT);
        due("2: the same again", () -> x.shape(4, 3, 4), 64);
        for (int k = 0; k < 6; k++) {
            int what = 11 + k;
            due("2: kept " + what, () -> x.told(what), kept[k]);
        }
        due("2: kept age", () -> x.told(19), 50);
        due("2: kept rule", () -> x.told(17), 2);
        int[] anew = {3, 4, 6, 7, 8, 9, 10, 18, 20};
        for (int what : anew) {
            due("2: anew " + what, () -> x.told(what), 0);
        }
        due("2: limit", () -> x.told(5), 4);
        due("2: no fault", x::fault, -1);
        due("2: nothing refused", () -> x.status(1), 0);
        due("2: no tag", () -> x.tag(0), -1);
        due("2: no access", () -> x.count(0), 0);
        due("2: no latest", () -> x.latest(0), -1);
        due("2: no history", () -> x.history(0, 0), MISSING);
        due("2: no order", () -> x.order(0, 0), MISSING);
        due("2: words", x::print, 0);
        due("2: candidate", () -> x.group(1, 2), 0);
        due("2: votes", () -> x.group(1, 3), 0);
        due("2: pin", () -> x.group(1, 8), -1);
        due("2: resident", () -> x.group(1, 0), -1);
        due("2: page", () -> x.page(1, 2), 0);
    }

    private static void shapeForgetsMore() {
        NearFar x = new NearFar();
        x.shape(8, 7, 8);
        x.set(2, 1);
        for (int k = 0; k < 17; k++) {
            x.read(k / 8, 1, k % 8);
        }
        due("2: before, wanting", () -> x.told(10), 1);
        x.shape(8, 7, 8);
        due("2: none wanting", () -> x.told(10), 0);
        x.go(100);
        x.read(0, 1, 0);
        x.set(4, 2);
        x.read(0, 0, 0);
        x.shape(4, 3, 4);
        x.read(0, 0, 0);
        due("2: counting begins anew", () -> x.told(5), 4);
        x.read(0, 0, 0);
        due("2: two since then", () -> x.told(5), 3);
        x.set(6, 50);
        x.set(2, 99);
        x.go(900);
        reads(x, 1, 1, 0, 4);
        x.shape(4, 3, 4);
        reads(x, 1, 1, 0, 4);
        x.go(50);
        due("2: votes are as old as their accesses are", () -> x.group(1, 9), 2);
        due("2: accesses of the group", () -> x.group(1, 4), 4);
    }

    private static void feed() {
        NearFar x = new NearFar();
        for (int k = 1; k <= 15; k++) {
            int held = 20 * k;
            due("3: twenty more", () -> x.feed(1, 2, 3, 4, 5), held);
        }
        due("3: more than 300", () -> x.feed(1, 2, 3, 4, 5), -1);
        due("3: doing nothing", () -> x.told(18), 300);
        due("3: no refusal", () -> x.status(1), 0);
        NearFar y = new NearFar();
        y.feed(0x766f7465, 0x733e3020, 0, 0, -1);
        due("3: the highest byte first", () -> y.rule(8), 1);
        due("3: empty then", () -> y.told(18), 0);
    }

    private static void rule() {
        NearFar x = new NearFar();
        due("4: one S", () -> rule(x, "votes>1"), 1);
        due("4: told", () -> x.told(17), 1);
        reads(x, 0, 1, 0, 1);
        due("4: not so", () -> x.told(4), 0);
        reads(x, 0, 1, 0, 1);
        due("4: so, below LEAST", () -> x.told(4), 1);
        due("4: none", () -> x.rule(0), 0);
        due("4: told none", () -> x.told(17), 0);
        reads(x, 1, 1, 0, 2);
        due("4: without one, LEAST", () -> x.group(1, 7), 0);
        reads(x, 1, 1, 0, 1);
        due("4: LEAST votes", () -> x.group(1, 7), 1);
        due("4: n below 0", () -> x.rule(-1), UNFIT);
        feed(x, "votes>1");
        due("4: more than the tape has", () -> x.rule(21), UNFIT);
        due("4: the tape stays", () -> x.told(18), 20);
        due("4: all of it", () -> x.rule(7), 1);
        x.rule(0);
        String most = "1=1or".repeat(19) + " votes>2" + " ".repeat(17);
        due("4: 120 bytes, 20 S", () -> rule(x, most), 20);
        feed(x, most + "  ");
        due("4: 121 bytes", () -> x.rule(121), UNFIT);
        due("4: and the tape stays", () -> x.told(18), 140);
        due("4: the rule stays", () -> x.told(17), 20);
        x.rule(0);
        due("4: the tape is empty behind n 0, too", () -> x.told(18), 0);
        feed(x, "votes>");
        due("4: a fault empties the tape, too", () -> x.rule(6) * 100L + x.told(18), -900);
        due("4: blanks everywhere", () -> rule(x, "  not  (  votes  +  1  -  2  <  3  )  "), 1);
        due("4: no blanks", () -> rule(x, "not(votes+1-2<3)and page=1or plain=0"), 3);
        due("4: zeros ahead", () -> rule(x, "votes>00000000000000000009999"), 1);
        due("4: words and numbers need no blanks", () -> rule(x, "votes>1or 2>1and 0001=1"), 3);
        due("4: 6 open, twice", () -> rule(x, "((((((1=1))))))and((((((1=1))))))"), 2);
    }

    private static void faulty(NearFar x, String text, int kind, int place) {
        due("4: fault of '" + text + "'", () -> rule(x, text), kind - 10);
        due("6: its place in '" + text + "'", x::fault, place);
    }

    private static void ruleFaults() {
        NearFar x = new NearFar();
        rule(x, "votes>7 and votes<9");
        faulty(x, "   ", 1, 3);
        faulty(x, "votes > ", 1, 8);
        faulty(x, "votes", 1, 5);
        faulty(x, "vote > 1", 1, 0);
        faulty(x, "votess > 1", 1, 0);
        faulty(x, "votesz > 1", 1, 0);
        faulty(x, "avotes > 1", 1, 0);
        faulty(x, "votes > 1 oraz 1 = 1", 1, 10);
        faulty(x, "or > 1", 1, 0);
        faulty(x, ";".repeat(120), 1, 0);
        faulty(x, " Votes > 1", 1, 1);
        faulty(x, "votes >= 1", 1, 7);
        faulty(x, "not not votes=1", 1, 4);
        faulty(x, "notvotes=1", 1, 0);
        faulty(x, "votes=1 or", 1, 10);
        faulty(x, "votes=1 or and", 1, 11);
        faulty(x, "votes=1 votes=1", 1, 8);
        faulty(x, "votes=1=1", 1, 7);
        faulty(x, "(votes)=1", 1, 6);
        faulty(x, "(votes=1", 1, 8);
        faulty(x, "votes=1)", 1, 7);
        faulty(x, "()", 1, 1);
        faulty(x, "votes=-1", 1, 6);
        faulty(x, "votes+=1", 1, 6);
        faulty(x, "votes 1=1", 1, 6);
        faulty(x, "votes=1;", 1, 7);
        faulty(x, "votes=1\t", 1, 7);
        faulty(x, "votes=1\u00a0", 1, 7);
        faulty(x, "votes=1 \u0000", 1, 8);
        faulty(x, "read=1", 1, 0);
        faulty(x, "votes=10000", 2, 6);
        faulty(x, "votes=  99999999999999999999", 2, 8);
        faulty(x, "10000", 2, 0);
        faulty(x, "votes=10000)", 2, 6);
        faulty(x, "votes=x10000", 1, 6);
        faulty(x, "1=1or".repeat(20) + " votes>2", 3, 106);
        faulty(x, "1=1or".repeat(20) + "10000>2", 2, 100);
        faulty(x, "1=1or".repeat(20) + "1)2", 1, 101);
        faulty(x, "(((((((1=1)))))))", 3, 6);
        faulty(x, "((((((1=1 or (", 3, 13);
        faulty(x, "((((((1=1 (", 1, 10);
        due("4: all but the tape stays", () -> x.told(17), 2);
        due("4: no refusal", () -> x.status(1), 0);
        due("6: a good text has none", () -> rule(x, "1=1") + x.fault(), 0);
        faulty(x, "1", 1, 1);
        due("6: an empty one has none", () -> x.rule(0) + x.fault(), -1);
    }

    private static boolean holds(NearFar x, String text, int group, int page) {
        rule(x, text);
        return x.so(group, page, 0);
    }

    private static void named(NearFar x, String name, int group, int page, int v) {
        due("4: " + name, () -> holds(x, name + "=" + v, group, page) ? 1 : 0, 1);
        due("4: " + name + " plus 1", () -> holds(x, name + ">" + v, group, page) ? 1 : 0, 0);
    }

    private static void ruleNames() {
        NearFar x = new NearFar();
        reads(x, 0, 1, 0, 3);
        // FAR till 18; the ORDER: NEAR till 2, then FAR 18 to 24, NEAR till 26, FAR till 32.
        x.go(2);
        named(x, "votes", 0, 1, 4);
        named(x, "votes", 0, 2, 2);
        named(x, "swapped", 0, 1, 0);
        named(x, "orders", 0, 1, 1);
        named(x, "orders", 3, 1, 1);
        named(x, "near", 0, 1, 2);
        named(x, "near", 1, 1, 0);
        named(x, "near", 1, 0, 2);
        named(x, "far", 1, 0, 22);
        named(x, "far", 1, 1, 28);
        named(x, "limit", 1, 1, 4);
        named(x, "page", 1, 3, 3);
        named(x, "hits", 0, 0, 0);
        named(x, "misses", 0, 0, 1);
        named(x, "misses", 1, 0, 0);
        named(x, "plain", 0, 0, 0);
        named(x, "plain", 1, 0, 1);
        x.go(60);
        named(x, "swapped", 0, 1, 1);
        named(x, "swapped", 1, 1, 0);
        named(x, "orders", 0, 1, 0);
        named(x, "1-2+3", 0, 1, 2);
        named(x, "9-2-3", 0, 1, 4);
        due("4: and binds more than or", () -> holds(x, "1=1 or 1=1 and 1=2", 0, 0) ? 1 : 0, 1);
        due("4: also the other way", () -> holds(x, "1=2 and 1=1 or 1=1", 0, 0) ? 1 : 0, 1);
        due("4: brackets", () -> holds(x, "(1=1 or 1=1) and 1=2", 0, 0) ? 1 : 0, 0);
        due("4: not binds most", () -> holds(x, "not 1=1 and 1=2", 0, 0) ? 1 : 0, 0);
        due("4: not of brackets", () -> holds(x, "not (1=1 and 1=2)", 0, 0) ? 1 : 0, 1);
        due("4: not below itself", () -> holds(x, "3<3", 0, 0) ? 1 : 0, 0);
        due("4: nor above", () -> holds(x, "3<2", 0, 0) ? 1 : 0, 0);
        due("4: not of what is not", () -> holds(x, "not 1=2", 0, 0) ? 1 : 0, 1);
        reads(x, 0, 2, 0, 3);
        named(x, "hits", 0, 2, 3);
        named(x, "misses", 0, 2, 1);
        x.go(500);
        named(x, "far", 1, 0, 0);
        due("4: less than 0", () -> holds(x, "1-2<0", 0, 0) ? 1 : 0, 1);
    }

    private static void work() {
        NearFar x = new NearFar();
        due("5: nothing", () -> x.work(0), 0);
        due("5: two", () -> work(x, "write 1 2 3 99999999 ; read 1 2 3 ; "), 2);
        due("5: written", () -> x.word(1, 2, 3), 99999999);
        due("5: PACE", () -> x.told(3), 2);
        due("5: a sweep", () -> work(x, "sweep 3 3;"), 4);
        due("5: from 0 on", () -> x.history(3, 2) * 10 + x.history(0, 2), 3);
        due("5: PACE each", () -> x.told(3), 6);
        x.set(5, 0);
        due("5: no PACE", () -> work(x, "sweep 3 3;wait 999;") * 10_000 + x.told(3), 41_005);
        due("5: again", () -> work(x, "again 3[read 0 1 0;again 2[read 0 1 1;];];wait 1;"), 9);
        due("5: again 0", () -> work(x, "again 0[read 0 1 0;again 2[read 0 1 1;];];wait 1;") * 10_000 + x.told(3), 1_007);
        due("5: again 0, in another", () -> work(x, "again 2[again 0[read 0 1 0;];read 0 0 0;];"), 2);
        due("5: the least word", () -> work(x, "write 2 2 2 5;write 2 2 2 0;") * 10 + x.word(2, 2, 2), 20);
        due("5: flush", () -> work(x, "flush;") + x.told(8) + x.told(4), 0);
        due("5: n below 0", () -> x.work(-1), UNFIT);
        due("5: more than the tape has", () -> x.work(1), UNFIT);
        String most = "wait 1;" + " ".repeat(193);
        due("5: 200 bytes", () -> work(x, most), 0);
        feed(x, most + " ");
        due("5: 201 bytes", () -> x.work(201), UNFIT);
        due("5: the tape stays", () -> x.told(18), 220);
        due("5: nothing of it is taken", () -> x.work(0) + x.told(18), 0);
        due("5: five open", () -> work(x, "again1[".repeat(5) + "read 0 0 0;" + "];".repeat(5)), 1);
        due("5: empty steps in many agains", () -> work(x, "again 40[".repeat(5) + "];".repeat(5)), 0);
    }

    private static void workFaulty(NearFar x, String text, int kind, int place) {
        due("5: fault of '" + text + "'", () -> work(x, text), kind - 10);
        due("6: its place in '" + text + "'", x::fault, place);
    }

    private static void workFaults() {
        NearFar x = new NearFar();
        workFaulty(x, "read 0 0 0", 1, 10);
        workFaulty(x, "read 0 0;", 1, 8);
        workFaulty(x, "read 0 0 0 0;", 1, 11);
        workFaulty(x, "read 4 0 0;", 2, 5);
        workFaulty(x, "read 0 4 0;", 2, 7);
        workFaulty(x, "read 0 0 4;", 2, 9);
        workFaulty(x, "write 0 0 0 100000000;", 2, 12);
        workFaulty(x, "write 0 0 0 4294967297;", 2, 12);
        workFaulty(x, "write 0 0 0;", 1, 11);
        workFaulty(x, "wait 0;", 2, 5);
        workFaulty(x, "wait 1000;", 2, 5);
        workFaulty(x, "wait x;", 1, 5);
        workFaulty(x, "again 41 [];", 2, 6);
        workFaulty(x, "again 4 read 0 0 0;", 1, 8);
        workFaulty(x, "again [", 1, 6);
        workFaulty(x, "again 4 [", 1, 9);
        workFaulty(x, "again 4 [ read 0 0 0; ", 1, 22);
        workFaulty(x, "again 4 [] read 0 0 0;", 1, 11);
        workFaulty(x, "again 4 []", 1, 10);
        workFaulty(x, "];", 1, 0);
        workFaulty(x, ";".repeat(200), 1, 0);
        workFaulty(x, "wait 1;".repeat(28) + "]]]]", 1, 196);
        workFaulty(x, ";", 1, 0);
        workFaulty(x, "wait 1;;", 1, 7);
        workFaulty(x, "wait 1;flushes;", 1, 7);
        workFaulty(x, "wait 1;votes;", 1, 7);
        workFaulty(x, "wait1;read0 0 0;WAIT", 1, 16);
        workFaulty(x, "again 1[".repeat(5) + " again 1[", 3, 41);
        workFaulty(x, "again 1[".repeat(5) + "];again 1[again", 3, 50);
        workFaulty(x, "write 0 0 0 7;wait 5;read 9 9 9;", 2, 26);
        due("5: nothing is done", () -> x.word(0, 0, 0) + x.told(3) + x.count(0), 0);
        due("5: fewer groups", () -> x.shape(1, 1, 1) + work(x, "read 0 1 0;"), 3);
        workFaulty(x, "read 1 0 0;", 2, 5);
        workFaulty(x, "sweep 0 2;", 2, 8);
    }

    private static void workEnds() {
        NearFar x = new NearFar();
        due("5: 400 accesses", () -> work(x, "again 40[again 10[read 0 0 0;];];wait 5;") * 1_000 + x.told(3), 400_405);
        due("5: no 401st", () -> work(x, "again 40[again 11[read 0 0 0;];];wait 5;") * 1_000 + x.told(3), 400_805);
        due("5: in a sweep", () -> work(x, "read 0 0 0;again 40[again 3[sweep 0 0;];];"), 400);
        due("5: the last ones of it", () -> x.history(0, 2), 2);
        NearFar y = new NearFar();
        // 1 and 40 times 49 STEPS: 1,961. Then 1 and 39 times 51, 10 of the last turn: 2,000, of them 1,959 waits.
        due("5: less than 2,000 steps", () -> work(y, "again 40[again 24[wait 1;wait 1;];];") + y.told(3), 1_920);
        due("5: no 2,001st", () -> work(y, "again 40[again 25[wait 1;wait 1;];];") + y.told(3), 1_920 + 1_959);
        // 1 and 39 times 51: 1,990; 9 more; the 2,000th waits 9 TICKS, and no other one does.
        String just = "again 39[again 25[wait 1;wait 1;];];" + "wait 1;".repeat(9) + "wait 9;wait 7;";
        due("5: just 2,000", () -> work(y, just) + y.told(3), 3_879 + 1_950 + 9 + 9);
        due("5: again is a step", () -> work(y, "again 40[again 24[again 1[];again 1[];];];wait 7;") + y.told(3), 5_854);
        due("5: too many of it", () -> work(y, "again 40[again 25[again 1[];again 1[];];];wait 7;") + y.told(3), 5_854);
        NearFar z = new NearFar();
        goTo(z, 999_990);
        z.set(5, 4);
        due("5: the clock, by PACE", () -> work(z, "again 9[write 0 0 0 5;];write 0 0 1 6;"), 3);
        due("5: it stands", () -> z.told(3), 999_998);
        due("5: behind the access", () -> z.word(0, 0, 0) * 10 + z.word(0, 0, 1), 50);
        due("5: by wait", () -> work(z, "wait 3;read 0 0 0;"), 0);
        due("5: it stands still", () -> z.told(3), 999_998);
        due("5: up to the end", () -> work(z, "wait 2;") + z.told(3), 1_000_000);
        z.set(5, 0);
        due("5: at the end, without PACE", () -> work(z, "read 0 0 0;read 0 0 0;"), 2);
        due("5: none of it is refused", () -> z.status(2), 0);
    }

    private static void fault() {
        NearFar x = new NearFar();
        due("6: of other", () -> other(x, "votes >", 1), 1 - 1_000_000_010);
        due("6: its place", x::fault, 7);
        due("6: a refused text is none", () -> x.rule(1), UNFIT);
        due("6: it stays", x::fault, 7);
        due("6: a good work", () -> work(x, "wait 1;") + x.fault(), -1);
    }

    private static void other() {
        NearFar x = new NearFar();
        due("7: no history", () -> other(x, "1=1", 1), 0);
        for (int k = 0; k < 6; k++) {
            x.read(0, 1, 0);
            x.go(50);
        }
        // By LEAST 3 at 50 TICKS: 6, 6, 6, swapped then; a MISS: 2 + 2, then 2, 2: 26. By votes > 0: 6, 4, 2, 2, 2, 2: 18.
        due("7: with no rule", () -> x.run(3, 2, 50, 0), 26);
        due("7: less", () -> other(x, "votes > 0", 50), -8);
        due("7: never: 36", () -> other(x, "1 > 2", 50), 10);
        due("7: alike", () -> other(x, "votes > 2", 50), 0);
        rule(x, "votes > 0");
        due("7: with a rule", () -> other(x, "1 > 2", 50), 18);
        due("7: the rule stays", () -> x.told(17) * 100 + x.told(4), 100);
        due("7: a number", () -> other(x, "1 > 20000", 50), 2 - 1_000_000_010);
        due("7: too many", () -> other(x, "(((((((", 50), 3 - 1_000_000_010);
        due("7: n is 0", () -> x.other(0, 1), UNFIT);
        due("7: n is 1", () -> other(x, "1", 1), 1 - 1_000_000_010);
        feed(x, "1=1");
        due("7: more than the tape has", () -> x.other(21, 1), UNFIT);
        due("7: gap is 0", () -> x.other(3, 0), UNFIT);
        due("7: gap is 100", () -> x.other(3, 100), UNFIT);
        due("7: the tape stays", () -> x.told(18), 20);
        due("7: gap is 99", () -> x.other(3, 99), 0);
        feed(x, " ".repeat(121));
        due("7: 121 bytes", () -> x.other(121, 1), UNFIT);
        due("7: nothing else changes", () -> x.told(3) * 10L + x.count(0), 3_006);
    }

    private static void so() {
        NearFar x = new NearFar();
        reads(x, 0, 1, 0, 1);
        due("8: two votes", () -> x.so(0, 1, 0) ? 1 : 0, 0);
        reads(x, 0, 1, 0, 1);
        due("8: three votes", () -> x.so(0, 1, 0) ? 1 : 0, 1);
        due("8: nothing changes", () -> x.group(0, 3) * 100 + x.told(4), 200);
        reads(x, 0, 1, 0, 2);
        due("8: more than LEAST", () -> x.so(0, 1, 3) ? 1 : 0, 1);
        due("8: another page, of three votes then", () -> x.so(0, 2, 3) ? 1 : 0, 1);
        rule(x, "misses > 0 and plain = 0 and votes < 4");
        due("8: the rule", () -> x.so(0, 2, 3) ? 1 : 0, 1);
        due("8: no order of it", () -> x.so(1, 2, 3) ? 1 : 0, 0);
        due("8: no group", () -> x.so(4, 0, 0) ? 1 : 0, MISSING);
        due("8: no page", () -> x.so(0, 4, 0) ? 1 : 0, MISSING);
        due("8: no segment", () -> x.so(0, 0, -1) ? 1 : 0, MISSING);
    }

    private static void set() {
        NearFar x = new NearFar();
        int[] first = {2, 6, 3, 2, 0, 1, 0};
        int[] lowest = {1, 1, 1, 0, 0, 0, 0};
        int[] highest = {99, 99, 99, 8, 64, 99, 9_999};
        for (int k = 0; k < 7; k++) {
            int what = k;
            due("9: first " + k, () -> x.set(what, highest[what]), first[k]);
            due("9: highest " + k, () -> x.set(what, lowest[what]), highest[k]);
            due("9: above " + k, () -> x.set(what, highest[what] + 1), UNFIT);
            due("9: below " + k, () -> x.set(what, lowest[what] - 1), UNFIT);
            due("9: lowest " + k, () -> x.set(what, first[what]), lowest[k]);
        }
        due("9: no 7", () -> x.set(7, 1), UNFIT);
        due("9: no -1", () -> x.set(-1, 1), UNFIT);
        due("9: refused", () -> x.status(1), 16);
    }

    private static void readAndWrite() {
        NearFar x = new NearFar();
        due("11: what there was", () -> x.write(3, 3, 3, Integer.MIN_VALUE), 0);
        due("11: and again", () -> x.write(3, 3, 3, 8), Integer.MIN_VALUE);
        due("10: read", () -> x.read(3, 3, 3), 8);
        due("10: another", () -> x.read(3, 3, 2), 0);
        int[][] none = {{4, 0, 0}, {-1, 0, 0}, {0, 4, 0}, {0, -1, 0}, {0, 0, 4}, {0, 0, -1}, {Integer.MAX_VALUE, 0, 0}};
        for (int[] a : none) {
            due("10: none such", () -> x.read(a[0], a[1], a[2]), MISSING);
            due("11: none such", () -> x.write(a[0], a[1], a[2], 1), MISSING);
            due("25: none such", () -> x.word(a[0], a[1], a[2]), MISSING);
            due("24: none such", () -> x.frame(a[0], a[1], a[2]), MISSING);
            due("23: none such", () -> x.where(a[0], a[1], a[2]), MISSING);
            due("29: none such, ahead of what", () -> x.would(a[0], a[1], a[2], 9), MISSING);
            due("14: none such, ahead of many", () -> x.burst(a[0], a[1], a[2], 0), MISSING);
        }
        due("38: refused", () -> x.status(0), 49);
        due("10: no accesses by them", () -> x.count(0), 4);
    }

    /** In each PHASE both SEGMENTS are written; none of it is lost, on the way and at its end, there and back. */
    private static void writesInFlight() {
        for (int back = 0; back < 2; back++) {
            for (int phase = 1; phase <= 4; phase++) {
                NearFar x = new NearFar();
                x.pin(0, 1);
                x.read(0, 1, 0);
                if (back == 1) {
                    x.go(50);
                    x.pin(0, 0);
                    x.read(0, 0, 0);
                }
                for (int k = 0; k < 200 && x.order(0, 2) != phase; k++) {
                    x.go(1);
                }
                String which = "3: phase " + phase + ", back " + back;
                int was = phase;
                due(which, () -> x.order(0, 2), was);
                int near = back == 0 ? 0 : 1;
                due(which + ", from near", () -> x.where(0, near, 0), phase == 1 ? 0 : -2);
                due(which + ", from far", () -> x.where(0, 1 - near, 0), phase <= 2 ? 1 : phase == 3 ? -3 : 0);
                x.write(0, near, 0, 100 + phase);
                x.write(0, 1 - near, 0, 200 + phase);
                due(which + ", word", () -> x.word(0, near, 0), 100 + phase);
                due(which + ", other word", () -> x.word(0, 1 - near, 0), 200 + phase);
                x.unpin(0);
                x.go(500);
                due(which + ", at its end", () -> x.word(0, near, 0), 100 + phase);
                due(which + ", other at its end", () -> x.word(0, 1 - near, 0), 200 + phase);
                due(which + ", swapped", () -> x.group(0, 1), 1 - back);
                due(which + ", other pages stay", () -> x.where(0, 2, 0) * 10 + x.where(0, 1, 1), 21);
            }
        }
    }

    private static void channels() {
        NearFar x = new NearFar();
        x.set(0, 3);
        x.set(1, 10);
        reads(x, 0, 0, 0, 2);
        due("2b: NEAR waits for NEAR", () -> x.latest(0), 6);
        reads(x, 0, 1, 0, 1);
        due("2b: not for FAR", () -> x.latest(0), 10);
        x.go(4);
        reads(x, 0, 0, 0, 1);
        due("2b: from 6 on", () -> x.latest(0), 5);
        x.go(20);
        reads(x, 0, 0, 0, 1);
        due("2b: free long ago", () -> x.latest(0), 3);
        due("17: when NEAR is free", () -> x.told(6), 27);
        due("17: when FAR is free", () -> x.told(7), 10);
    }

    private static void tags() {
        NearFar x = new NearFar();
        x.set(2, 1);
        x.set(0, 1);
        for (int g = 0; g < 4; g++) {
            x.read(g, 1, 0);
            due("2a: plain", () -> x.latest(2), 0);
        }
        due("2a: no tags by plain ones", () -> x.tag(0), -1);
        x.go(500);
        x.read(0, 2, 0);
        due("2a: a miss, NEAR then FAR", () -> x.latest(2) * 100 + x.latest(0), 207);
        x.read(1, 2, 0);
        x.read(0, 1, 0);
        due("2a: a hit", () -> x.latest(2), 1);
        due("26: the first one then", () -> x.tag(0) * 10 + x.tag(1), 1);
        x.read(2, 2, 0);
        due("26: the last one leaves", () -> x.tag(0) * 100 + x.tag(1) * 10 + x.tag(2), 199);
        due("20: place", () -> x.group(0, 6) * 10 + x.group(1, 6), 9);
        x.set(3, 1);
        due("9: tags leave", () -> x.tag(0) * 10 + x.tag(1), 19);
        x.set(3, 8);
        due("9: and do not come again", () -> x.tag(1), -1);
        x.set(3, 0);
        x.read(2, 1, 0);
        x.read(2, 1, 0);
        due("2a: SIZE 0, always a miss", () -> x.latest(2) * 10 + x.tag(0), 19);
        due("26: below 0", () -> x.tag(-1), -1);
        due("26: far above", () -> x.tag(Integer.MAX_VALUE), -1);
        due("26: far below", () -> x.tag(Integer.MIN_VALUE), -1);
        due("18: plain, hits, misses", () -> x.count(4) * 100 + x.count(5) * 10 + x.count(6), 415);
        NearFar y = new NearFar();
        y.shape(8, 1, 1);
        y.set(2, 1);
        y.set(3, 8);
        for (int g = 0; g < 8; g++) {
            y.read(g, 1, 0);
        }
        y.go(1_000);
        for (int g = 0; g < 8; g++) {
            y.read(g, 1, 0);
        }
        for (int k = 0; k < 8; k++) {
            int place = k;
            due("26: eight, the latest first", () -> y.tag(place), 7 - k);
        }
        y.read(0, 1, 0);
        due("2a: the last one is a hit", () -> y.latest(2) * 100 + y.tag(0) * 10 + y.tag(7), 101);
    }

    private static void votes() {
        NearFar x = new NearFar();
        x.set(2, 99);
        int[] pages = {1, 1, 2, 2, 2, 0, 0, 3};
        int[] candidates = {1, 1, 1, 1, 2, 2, 0, 0};
        int[] votes = {1, 2, 1, 0, 1, 0, 1, 0};
        for (int k = 0; k < pages.length; k++) {
            x.read(2, pages[k], 0);
            due("2c: candidate " + k, () -> x.group(2, 2), candidates[k]);
            due("2c: votes " + k, () -> x.group(2, 3), votes[k]);
        }
        due("2c: other groups", () -> x.group(1, 3), 0);
    }

    private static void swaps() {
        NearFar x = new NearFar();
        reads(x, 0, 1, 0, 2);
        due("2d: none yet", () -> x.told(4), 0);
        x.read(0, 1, 2);
        due("2d: the segment of the access", () -> x.order(0, 1), 2);
        due("2d: resident", () -> x.group(0, 0), 1);
        x.read(0, 1, 2);
        due("2d: ordered once", () -> x.told(4), 1);
        x.read(0, 1, 0);
        due("2d: another one waits", () -> x.told(4) * 100 + x.order(1, 1) * 10 + x.order(1, 2), 200);
        due("27: it waits", () -> x.order(1, 3), -1);
        x.read(0, 2, 1);
        due("2d: not the candidate", () -> x.told(4), 2);
        x.go(200);
        due("3: swapped", () -> x.group(0, 1), 5);
        due("17: at their end", () -> x.told(9), 2);
        reads(x, 0, 0, 0, 5);
        due("2d: candidate 0 has one vote", () -> x.group(0, 2) * 10 + x.group(0, 3), 1);
        reads(x, 0, 0, 1, 2);
        due("2d: not swapped, not ordered", () -> x.told(4), 0);
        x.read(0, 0, 0);
        due("2d: page 0 comes home", () -> x.told(4), 1);
        x.go(200);
        due("3: one is left", () -> x.group(0, 1) * 10 + x.group(0, 0), 41);
        x.read(0, 0, 2);
        x.go(200);
        due("3: none is left, no resident", () -> x.group(0, 1) * 10 + x.group(0, 0), -1);
    }

    private static void ordersAreFull() {
        NearFar x = new NearFar();
        x.shape(8, 7, 8);
        x.set(2, 1);
        for (int s = 0; s < 8; s++) {
            x.read(0, 1, s);
            x.read(1, 1, s);
        }
        due("3: sixteen", () -> x.told(4), 16);
        due("3: none wanting", () -> x.told(10), 0);
        x.read(2, 3, 0);
        due("3: a 17th is none", () -> x.told(4) * 10 + x.told(10), 161);
        due("2d: no resident again", () -> x.group(2, 0), -1);
        x.read(0, 1, 5);
        due("3: one there already is not wanting", () -> x.told(10), 1);
        due("27: the last one", () -> x.order(15, 0) * 10 + x.order(15, 1), 17);
        due("27: no 17th", () -> x.order(16, 0), MISSING);
        x.go(10_000);
        due("3: all swapped", () -> x.told(8) * 100 + x.told(9), 1_616);
        due("3: from NOW on", () -> { x.read(2, 3, 0); return x.order(0, 3); }, 10_002);
    }

    private static void otherResident() {
        NearFar x = new NearFar();
        x.set(2, 1);
        x.read(0, 1, 3);
        x.read(0, 1, 1);
        x.go(200);
        reads(x, 0, 2, 0, 2);
        due("2d: votes are 0", () -> x.group(0, 3) * 10 + x.told(4), 0);
        x.read(0, 2, 0);
        due("2d: each swapped one of the other, from the least on", () -> x.told(4) * 100 + x.order(0, 1) * 10 + x.order(1, 1), 213);
        due("2d: it is resident still", () -> x.group(0, 0), 1);
        x.read(0, 2, 0);
        due("2d: no more", () -> x.told(4), 2);
        x.go(200);
        due("3: nobody is", () -> x.group(0, 0), -1);
        x.read(0, 2, 0);
        due("2d: now it is", () -> x.group(0, 0), 2);
    }

    private static void age() {
        NearFar x = new NearFar();
        x.set(2, 99);
        x.set(6, 10);
        reads(x, 0, 1, 0, 9);
        x.go(9);
        due("20: not yet", () -> x.group(0, 9), 9);
        x.go(1);
        due("20: halved, cut", () -> x.group(0, 9), 4);
        due("20: votes as they are", () -> x.group(0, 3), 9);
        x.go(10);
        due("20: twice", () -> x.group(0, 9), 2);
        x.read(0, 2, 0);
        due("2c: halved first", () -> x.group(0, 3), 1);
        x.go(9);
        x.read(0, 1, 0);
        due("2c: since the access ahead", () -> x.group(0, 3), 2);
        x.go(10_000);
        due("20: often", () -> x.group(0, 9), 0);
        x.read(0, 3, 0);
        due("2c: a new candidate", () -> x.group(0, 2) * 10 + x.group(0, 3), 31);
        x.set(6, 0);
        x.go(1_000);
        due("2c: no age", () -> x.group(0, 9), 1);
        x.set(6, 1);
        due("2c: 1,000 times", () -> x.group(0, 9), 0);
        NearFar y = new NearFar();
        y.set(6, 100);
        y.go(1_000);
        reads(y, 0, 1, 0, 3);
        due("2c: since tick 0", () -> y.group(0, 3) * 10 + y.told(4), 31);
    }

    private static void balance() {
        NearFar x = new NearFar();
        x.set(4, 2);
        x.read(0, 0, 0);
        x.set(4, 2);
        x.read(0, 0, 0);
        due("2e: counting began anew", () -> x.told(5), 4);
        x.read(0, 0, 0);
        due("2e: one less", () -> x.told(5), 3);
        due("20: shut", () -> x.group(3, 5) * 10 + x.group(2, 5), 1);
        reads(x, 0, 0, 0, 10);
        due("2e: 0 at least", () -> x.told(5), 0);
        x.read(0, 1, 0);
        x.read(0, 0, 0);
        due("2e: more of FAR", () -> x.told(5), 1);
        reads(x, 0, 1, 0, 20);
        due("2e: GROUPS at most", () -> x.told(5), 4);
        x.shape(4, 3, 4);
        x.set(4, 4);
        reads(x, 0, 0, 0, 3);
        x.read(0, 1, 0);
        due("2e: 6 and 6: as it was", () -> x.told(5), 4);
        reads(x, 0, 0, 0, 4);
        due("2e: less", () -> x.told(5), 3);
        reads(x, 3, 1, 0, 3);
        due("2d: shut, no order", () -> x.group(3, 3) * 10 + x.told(4), 30);
        x.set(4, 0);
        due("9: WINDOW 0: GROUPS", () -> x.told(5), 4);
        x.read(3, 1, 0);
        due("2d: open", () -> x.told(4), 1);
    }

    private static void balanceOrders() {
        for (int pinned = 0; pinned < 2; pinned++) {
            NearFar x = new NearFar();
            x.set(2, 1);
            x.read(3, 1, 2);
            x.read(3, 1, 0);
            x.go(500);
            x.set(2, 99);
            x.set(4, 3);
            if (pinned == 1) {
                x.pin(3, 1);
            }
            reads(x, 0, 0, 0, 3);
            due("2e: limit", () -> x.told(5), 3);
            due("2e: its swapped ones are ordered, without a pin", () -> x.told(4), pinned == 0 ? 2 : 0);
            if (pinned == 0) {
                due("2e: from the least on", () -> x.order(0, 0) * 100 + x.order(0, 1) * 10 + x.order(1, 1), 302);
            }
        }
    }

    private static void pins() {
        NearFar x = new NearFar();
        due("12: none was", () -> x.pin(1, 2), -1);
        due("12: it was", () -> x.pin(1, 3), 2);
        due("17: pins", () -> x.told(20), 2);
        reads(x, 1, 2, 0, 5);
        due("2d: another page, nothing", () -> x.told(4), 0);
        x.set(4, 1);
        reads(x, 0, 0, 0, 4);
        due("2e: all are shut", () -> x.told(5), 0);
        x.read(1, 3, 1);
        due("2d: the pin, whatever", () -> x.told(4) * 10 + x.group(1, 0), 13);
        due("2d: votes go as ever", () -> x.group(1, 2) * 10 + x.group(1, 3), 24);
        due("13: it was", () -> x.unpin(1), 3);
        due("13: none was", () -> x.unpin(1), -1);
        due("12: no group", () -> x.pin(-1, 0), MISSING);
        due("12: no page", () -> x.pin(0, 4), MISSING);
        due("13: no group", () -> x.unpin(4), MISSING);
        x.go(200);
        due("12: nothing else changes", () -> { x.pin(1, 0); return x.told(4) * 10 + x.group(1, 1); }, 2);
        x.read(1, 0, 1);
        due("2d: pin 0 comes home", () -> x.told(4), 1);
        x.go(200);
        x.pin(1, 3);
        x.read(1, 3, 0);
        x.go(200);
        x.pin(1, 2);
        x.read(1, 2, 3);
        due("2d: another one is resident", () -> x.told(4) * 100 + x.order(0, 1) * 10 + x.group(1, 0), 103);
    }

    private static void burst() {
        NearFar x = new NearFar();
        // FAR at 0, 1, 2: ends 6, 12, 18.
        due("14: latencies", () -> x.burst(0, 1, 0, 3), 6 + 11 + 16);
        due("14: the clock", () -> x.told(3), 3);
        due("14: accesses", () -> x.count(0), 3);
        due("14: none", () -> x.burst(0, 0, 0, 0), UNFIT);
        due("14: 51", () -> x.burst(0, 0, 0, 51), UNFIT);
        x.go(97);
        due("14: 50", () -> x.burst(1, 0, 0, 50) * 1_000 + x.told(3), 1_325_150);
        goTo(x, 999_951);
        due("14: too late", () -> x.burst(0, 0, 0, 50), LATE);
        due("14: ahead of that, many", () -> x.burst(0, 0, 0, 51), UNFIT);
        due("14: nothing is done", () -> x.told(3) + x.count(0), 999_951 + 53);
        due("14: to the end", () -> { x.burst(0, 0, 0, 49); return x.told(3); }, 1_000_000);
    }

    private static void go() {
        NearFar x = new NearFar();
        x.set(2, 1);
        x.read(0, 1, 0);
        x.read(0, 1, 1);
        // FAR till 12; NEAR till 2; FAR 12 to 18, NEAR till 20, FAR till 26; then 28, 34, 36, 42.
        due("15: none", () -> x.go(25), 0);
        due("15: one, at 26", () -> x.go(1), 1);
        due("15: none", () -> x.go(15), 0);
        due("15: another one, at 42", () -> x.go(1), 1);
        due("15: 0", () -> x.go(0), UNFIT);
        due("15: 10,001", () -> x.go(10_001), UNFIT);
        goTo(x, 995_000);
        due("15: too late", () -> x.go(5_001), LATE);
        due("15: ahead of that, ticks", () -> x.go(10_001), UNFIT);
        due("15: the clock stays", () -> x.told(3), 995_000);
        due("15: to the end", () -> x.go(5_000) + x.told(3), 1_000_000);
        due("15: and no more", () -> x.go(1), LATE);
    }

    private static void flush() {
        NearFar x = new NearFar();
        x.shape(8, 7, 8);
        x.set(2, 1);
        for (int g = 0; g < 3; g++) {
            for (int s = 0; s < 8; s++) {
                x.write(g, 1, s, 10 * g + s);
                x.go(100);
            }
        }
        due("16: 24 are swapped", () -> x.told(8), 24);
        due("16: 16 TICKS each", () -> x.flush(), 24 * 16);
        due("16: nothing is swapped", () -> x.told(8) + x.told(4), 0);
        due("16: none was wanting", () -> x.told(10), 0);
        due("16: words", () -> x.frame(2, 1, 7), 27);
        due("16: again", () -> x.flush(), 0);
        long now = x.told(3);
        x.read(5, 1, 3);
        // In flight to be swapped (FAR is used till 6 first): END at 6 + 6 + 2 + 6 = 20; then home by 16.
        due("16: one in flight, too", () -> x.flush(), 36);
        due("16: the clock", () -> x.told(3), now + 36);
        due("16: no resident", () -> x.group(5, 0), -1);
        x.pin(4, 2);
        x.read(4, 2, 0);
        due("16: also with a pin", () -> x.flush() * 10 + x.told(8), 360);
    }

    private static void flushTooLate() {
        NearFar x = new NearFar();
        x.set(2, 1);
        goTo(x, 999_950);
        x.write(0, 1, 0, 5);
        x.go(30);
        due("16: swapped", () -> x.told(8), 1);
        x.go(5);
        due("16: till 1,000,001", () -> x.flush(), LATE);
        due("16: nothing changes", () -> x.told(3) + x.told(4), 999_985);
        due("5: a work ends there", () -> work(x, "flush;write 0 0 0 7;") + x.word(0, 0, 0) + x.told(4), 0);
        due("38: refused once", () -> x.status(2), 1);
        NearFar y = new NearFar();
        y.set(2, 1);
        goTo(y, 999_950);
        y.write(0, 1, 0, 5);
        y.go(30);
        y.go(4);
        due("16: till 1,000,000", () -> y.flush() + y.told(3), 1_000_016);
        NearFar z = new NearFar();
        z.shape(8, 7, 8);
        z.set(2, 1);
        goTo(z, 999_950);
        z.write(7, 7, 7, 5);
        z.go(30);
        z.go(5);
        due("16: of the last group, too", () -> z.flush(), LATE);
        due("16: nothing changes there", () -> z.told(3) + z.told(4), 999_985);
        NearFar w = new NearFar();
        w.set(2, 1);
        w.set(5, 0);
        goTo(w, 999_950);
        w.write(0, 1, 0, 5);
        w.go(30);
        w.go(4);
        due("5: a work goes on at 1,000,000", () -> work(w, "flush;read 0 0 0;") * 10 + w.told(8), 10);
    }

    private static void told() {
        NearFar x = new NearFar();
        due("17: -1", () -> x.told(-1), UNFIT);
        due("17: 21", () -> x.told(21), UNFIT);
        x.feed(1, 2, 3, 4, 5);
        due("17: tape", () -> x.told(18), 20);
        int[] set = {11, 12, 13, 4, 15, 16};
        for (int k = 0; k < set.length; k++) {
            int what = k;
            x.set(k, set[k]);
            due("17: set " + k, () -> x.told(11 + what), set[k]);
        }
        x.set(6, 17);
        due("17: age", () -> x.told(19), 17);
        x.pin(0, 0);
        x.pin(3, 3);
        due("17: pins", () -> x.told(20), 9);
    }

    private static void countAndLatest() {
        NearFar x = new NearFar();
        due("18: -1", () -> x.count(-1), UNFIT);
        due("18: 9", () -> x.count(9), UNFIT);
        due("19: -1", () -> x.latest(-1), UNFIT);
        due("19: 3", () -> x.latest(3), UNFIT);
        x.set(2, 1);
        x.read(0, 1, 0);
        // FAR till 6, NEAR till 2; at 2 page 0 is in BUFFER A.
        x.go(2);
        x.read(0, 0, 0);
        due("19: a miss till 4, then a TICK", () -> x.latest(0) * 100 + x.latest(1) * 10 + x.latest(2), 322);
        x.read(0, 0, 0);
        due("19: a hit, a TICK", () -> x.latest(0) * 100 + x.latest(1) * 10 + x.latest(2), 121);
        x.read(0, 0, 1);
        due("19: NEAR, from 4 on", () -> x.latest(0) * 100 + x.latest(1) * 10 + x.latest(2), 401);
        x.write(1, 1, 1, 1);
        due("19: FAR, from 12 on", () -> x.latest(0) * 100 + x.latest(1) * 10 + x.latest(2), 1_610);
        long[] sums = {5, 1, 2, 2, 2, 2, 1, 6 + 3 + 1 + 4 + 16, 16};
        for (int k = 0; k < sums.length; k++) {
            int what = k;
            due("18: " + k, () -> x.count(what), sums[k]);
        }
    }

    private static void group() {
        NearFar x = new NearFar();
        due("20: no group, ahead of what", () -> x.group(4, 10), MISSING);
        due("20: no group", () -> x.group(-1, 0), MISSING);
        due("20: 10", () -> x.group(0, 10), UNFIT);
        due("20: -1", () -> x.group(0, -1), UNFIT);
        x.set(2, 1);
        x.read(2, 3, 1);
        x.read(2, 3, 3);
        int[] flying = {3, 0, 3, 2, 2, 1, 0, 2, -1, 2};
        for (int k = 0; k < flying.length; k++) {
            int what = k;
            due("20: in flight " + k, () -> x.group(2, what), flying[k]);
        }
        x.go(200);
        due("20: bits", () -> x.group(2, 1), 10);
        due("20: no orders", () -> x.group(2, 7), 0);
    }

    private static void pageAndMajority() {
        NearFar x = new NearFar();
        reads(x, 0, 3, 0, 2);
        reads(x, 0, 1, 0, 1);
        reads(x, 0, 2, 0, 1);
        due("21: two", () -> x.page(0, 3), 2);
        due("21: none", () -> x.page(0, 0), 0);
        due("22: just half", () -> x.majority(0), -1);
        x.write(0, 3, 1, 5);
        due("22: more than half", () -> x.majority(0), 3);
        due("22: another group", () -> x.majority(1), -1);
        due("21: no page", () -> x.page(0, -1), MISSING);
        due("21: no group", () -> x.page(4, 0), MISSING);
        due("22: no group", () -> x.majority(4), MISSING);
    }

    private static void whereFrameWord() {
        NearFar x = new NearFar();
        x.write(0, 0, 0, 10);
        x.write(0, 1, 0, 11);
        x.write(0, 2, 0, 12);
        x.pin(0, 2);
        x.read(0, 2, 0);
        x.go(100);
        due("23: page 2", () -> x.where(0, 2, 0), 0);
        due("23: page 0", () -> x.where(0, 0, 0), 2);
        due("23: page 1", () -> x.where(0, 1, 0), 1);
        due("23: another segment", () -> x.where(0, 2, 1) * 10 + x.where(0, 0, 1), 20);
        due("24: near", () -> x.frame(0, 0, 0), 12);
        due("24: far 2", () -> x.frame(0, 2, 0), 10);
        due("24: far 1", () -> x.frame(0, 1, 0), 11);
        due("25: words", () -> x.word(0, 0, 0) * 10_000 + x.word(0, 1, 0) * 100 + x.word(0, 2, 0), 101_112);
        due("25: no access", () -> x.count(0), 4);
    }

    private static void order() {
        NearFar x = new NearFar();
        due("27: none, ahead of what", () -> x.order(0, 4), MISSING);
        x.pin(1, 1);
        x.read(1, 1, 2);
        x.read(1, 1, 0);
        due("27: what", () -> x.order(0, 4), UNFIT);
        due("27: below", () -> x.order(1, -1), UNFIT);
        due("27: -1", () -> x.order(-1, 0), MISSING);
        due("27: 2", () -> x.order(2, 0), MISSING);
        due("27: the first", () -> x.order(0, 0) * 1_000 + x.order(0, 1) * 100 + x.order(0, 2) * 10 + x.order(0, 3), 1_212);
        due("27: the second", () -> x.order(1, 0) * 1_000 + x.order(1, 1) * 100 + x.order(1, 2) * 10 + x.order(1, 3), 999);
        // FAR 6; then, a MISS: NEAR 2 to 4, FAR 12. PHASES: 2, 18, 20, 26, then 28.
        int[][] phases = {{2, 2, 18}, {18, 3, 20}, {20, 4, 26}, {26, 1, 28}};
        for (int[] p : phases) {
            goTo(x, p[0]);
            due("27: phase at " + p[0], () -> x.order(0, 2), p[1]);
            due("27: its end at " + p[0], () -> x.order(0, 3), p[2]);
        }
        due("27: the second is the first now", () -> x.order(0, 1) * 10 + x.told(4), 1);
    }

    private static void history() {
        NearFar x = new NearFar();
        due("28: none, ahead of what", () -> x.history(0, 4), MISSING);
        x.write(1, 2, 3, 5);
        due("28: what", () -> x.history(0, 4), UNFIT);
        due("28: below", () -> x.history(0, -1), UNFIT);
        for (int k = 0; k < 63; k++) {
            x.read(k % 4, k % 3, k % 2);
        }
        due("28: the oldest", () -> x.history(63, 0) * 1_000 + x.history(63, 1) * 100 + x.history(63, 2) * 10 + x.history(63, 3), 1_231);
        due("28: no 65th", () -> x.history(64, 0), MISSING);
        x.read(3, 0, 3);
        due("28: 64 at most", () -> x.history(64, 0), MISSING);
        due("28: it has left", () -> x.history(63, 0) * 1_000 + x.history(63, 1) * 100 + x.history(63, 2) * 10 + x.history(63, 3), 0);
        due("28: the latest", () -> x.history(0, 0) * 1_000 + x.history(0, 1) * 100 + x.history(0, 2) * 10 + x.history(0, 3), 3_030);
        due("28: -1", () -> x.history(-1, 0), MISSING);
    }

    private static void would() {
        NearFar x = new NearFar();
        x.set(2, 1);
        x.read(0, 1, 0);
        x.go(2);
        due("29: a miss and a buffer", () -> x.would(0, 0, 0, 0) * 100 + x.would(0, 0, 0, 1) * 10 + x.would(0, 0, 0, 2), 322);
        due("29: plain and far", () -> x.would(1, 1, 0, 0) * 100 + x.would(1, 1, 0, 1) * 10 + x.would(1, 1, 0, 2), 1_610);
        due("29: nothing changes", () -> x.count(0) * 10 + x.told(4), 11);
        due("29: no tag", () -> x.tag(0), -1);
        due("29: 3", () -> x.would(0, 0, 0, 3), UNFIT);
        due("29: -1", () -> x.would(0, 0, 0, -1), UNFIT);
    }

    private static void quiet() {
        NearFar x = new NearFar();
        x.go(7);
        due("30: now", x::quiet, 7);
        x.set(2, 1);
        x.read(0, 1, 0);
        x.read(0, 1, 1);
        // From 7: FAR 13, NEAR 9, a MISS 9 to 11, FAR 19; PHASES: 9, 25, 27, 33; 35, 41, 43, 49.
        due("30: behind both", x::quiet, 49);
        due("30: nothing changes", () -> x.told(3) * 10 + x.told(4), 72);
        x.go(42);
        due("30: at it", () -> x.quiet() * 10L + x.told(4), 490);
    }

    private static void split() {
        NearFar x = new NearFar();
        int[] most = {1, 2, 3, 3, 4, 5, 6, 6};
        int[] ticks = {2, 4, 6, 6, 8, 10, 12, 12};
        for (int k = 0; k < most.length; k++) {
            int requests = k + 1;
            due("31: of " + requests, () -> x.split(requests, 0), most[k]);
            due("31: ticks of " + requests, () -> x.split(requests, 1), ticks[k]);
        }
        due("31: 1,000", () -> x.split(1_000, 0) * 10_000L + x.split(1_000, 1), 7_501_500);
        reads(x, 0, 0, 0, 10);
        due("31: NEAR is used till 20", () -> x.split(1, 0) * 100 + x.split(1, 1), 6);
        x.go(15);
        due("31: till 5 from now on", () -> x.split(1, 0) * 100 + x.split(1, 1), 6);
        x.go(1);
        due("31: till 4: alike, the most to NEAR", () -> x.split(1, 0) * 100 + x.split(1, 1), 106);
        x.set(0, 99);
        x.set(1, 1);
        due("31: all to FAR", () -> x.split(90, 0) * 100 + x.split(90, 1), 90);
        NearFar y = new NearFar();
        y.set(2, 99);
        reads(y, 0, 1, 0, 10);
        due("31: what is none's does not wait", () -> y.split(3, 0) * 100 + y.split(3, 1), 306);
        due("31: 0", () -> x.split(0, 0), UNFIT);
        due("31: 1,001", () -> x.split(1_001, 0), UNFIT);
        due("31: what", () -> x.split(1, 2), UNFIT);
        due("31: below", () -> x.split(1, -1), UNFIT);
    }

    private static void run() {
        NearFar x = new NearFar();
        for (int what = 0; what < 5; what++) {
            int w = what;
            due("32: none " + w, () -> x.run(1, 0, 1, w), 0);
        }
        x.set(4, 1);
        x.pin(0, 3);
        rule(x, "1=2");
        for (int k = 0; k < 4; k++) {
            x.write(0, 1, k % 2, k + 1);
        }
        // LEAST 2, GAP 30: FAR 6; FAR 6, segment 1 ordered (30: 32; 36 to 42, 44, 50), swapped at 60; then
        // a MISS and segment 0 of FAR: 2 + 6, ordered (62; 68 to 74, 76, 82); at 90: a hit or a miss, NEAR.
        due("32: latencies, SIZE 1", () -> x.run(2, 1, 30, 0), 6 + 6 + 8 + 2);
        due("32: latencies, SIZE 0", () -> x.run(2, 0, 30, 0), 6 + 6 + 8 + 4);
        due("32: at NEAR", () -> x.run(2, 1, 30, 1), 1);
        due("32: at their end", () -> x.run(2, 1, 30, 2), 2);
        due("32: misses", () -> x.run(2, 1, 30, 3) * 10 + x.run(2, 0, 30, 3), 12);
        due("32: swapped", () -> x.run(2, 1, 30, 4), 2);
        // GAP 1, LEAST 1: FAR 0 to 6, 0 ordered (NEAR till 2). At 1: a miss 2 to 4, FAR 12, 1 waits. At 2: PHASE 2 begins,
        // FAR 18; a hit, FAR 24; at 3: FAR 30.
        due("32: GAP 1", () -> x.run(1, 2, 1, 0), 6 + 11 + 22 + 27);
        due("32: nothing ended", () -> x.run(1, 2, 1, 2) + x.run(1, 2, 1, 4), 0);
        due("32: nothing stays changed", () -> x.told(3) + x.told(4) + x.count(0), 4);
        due("32: words, too", () -> x.word(0, 1, 1), 4);
        int[][] unfit = {{0, 0, 1, 0}, {100, 0, 1, 0}, {1, -1, 1, 0}, {1, 9, 1, 0}, {1, 0, 0, 0}, {1, 0, 100, 0}, {1, 0, 1, 5}, {1, 0, 1, -1}};
        for (int[] a : unfit) {
            due("32: unfit", () -> x.run(a[0], a[1], a[2], a[3]), UNFIT);
        }
        due("32: the highest", () -> x.run(99, 8, 99, 4), 0);
        // What would() was thought of last does not show in a RUN.
        x.set(6, 30);
        x.go(500);
        x.would(0, 1, 0, 0);
        // Votes 1, then halved to 0 each time: 1, ...: never 2.
        due("32: AGE as it is", () -> x.run(2, 1, 30, 0), 24);
    }

    private static void tuneAndEnough() {
        NearFar x = new NearFar();
        due("33: none", () -> x.tune(99, 0) * 10 + x.tune(99, 1), 10);
        due("34: none", () -> x.enough(99), 0);
        for (int k = 0; k < 6; k++) {
            x.read(0, 1, 0);
        }
        due("33: at once", () -> x.tune(50, 0) * 100 + x.tune(50, 1), 118);
        due("34: one", () -> x.enough(50), 1);
        x.shape(4, 3, 4);
        x.read(0, 1, 0);
        x.read(0, 2, 0);
        x.read(0, 2, 0);
        // LEAST 1: a miss at each: 6 + 8 + ..; LEAST 2 and more: 6 + 6 + 6, votes are 1 at most.
        due("33: the least of alike ones", () -> x.tune(50, 0) * 100 + x.tune(50, 1), 218);
        x.shape(4, 3, 4);
        reads(x, 0, 1, 0, 19);
        reads(x, 0, 2, 0, 1);
        reads(x, 0, 1, 0, 1);
        // The first 19 are of FAR alike, wherever an ORDER comes behind; by LEAST 20 none comes at all.
        due("33: up to 20", () -> x.tune(1, 0), tuned(x, 1));
        due("33: the latencies", () -> x.tune(1, 1), x.run(x.tune(1, 0), 2, 1, 0));
        due("33: gap 0", () -> x.tune(0, 0), UNFIT);
        due("33: gap 100", () -> x.tune(100, 0), UNFIT);
        due("33: what", () -> x.tune(1, 2), UNFIT);
        due("33: below", () -> x.tune(1, -1), UNFIT);
        due("34: gap 0", () -> x.enough(0), UNFIT);
        due("34: gap 100", () -> x.enough(100), UNFIT);
        x.shape(4, 3, 4);
        x.set(2, 1);
        for (int k = 0; k < 12; k++) {
            x.read(k % 3, 1, 0);
        }
        due("34: three groups by turns", () -> x.enough(99), 3);
        x.set(2, 9);
        due("34: LEAST as it is", () -> x.enough(99), 0);
    }

    private static int tuned(NearFar x, int gap) {
        int best = 1;
        for (int least = 2; least <= 20; least++) {
            if (x.run(least, x.told(14), gap, 0) < x.run(best, x.told(14), gap, 0)) {
                best = least;
            }
        }
        return best;
    }

    private static void ideal() {
        NearFar x = new NearFar();
        reads(x, 0, 0, 0, 3);
        reads(x, 0, 1, 0, 4);
        reads(x, 3, 3, 2, 2);
        reads(x, 3, 2, 2, 2);
        due("35: 4 and 2", x::ideal, 6);
        reads(x, 2, 2, 2, 60);
        due("35: the latest 64 alone", x::ideal, 62);
        reads(x, 3, 3, 0, 64);
        due("35: the last page of the last group", x::ideal, 64);
    }

    private static void needs() {
        NearFar x = new NearFar();
        due("36: the candidate", () -> x.needs(0, 0), 3);
        due("36: another", () -> x.needs(0, 3), 3);
        reads(x, 0, 1, 0, 2);
        due("36: one more", () -> x.needs(0, 1), 1);
        due("36: two against it", () -> x.needs(0, 2), 5);
        reads(x, 0, 1, 0, 2);
        due("36: none", () -> x.needs(0, 1), 0);
        x.set(6, 5);
        x.go(10);
        due("36: halved first", () -> x.needs(0, 1) * 10 + x.needs(0, 0), 24);
        due("36: no page", () -> x.needs(0, 4), MISSING);
        due("36: no group", () -> x.needs(-1, 0), MISSING);
    }

    private static void print() {
        NearFar x = new NearFar();
        x.shape(1, 1, 2);
        x.write(0, 0, 0, 1);
        x.write(0, 0, 1, -2);
        x.write(0, 1, 0, 3);
        x.write(0, 1, 1, Integer.MAX_VALUE);
        long due = ((31L * 1 - 2) * 31 + 3) * 31 + Integer.MAX_VALUE;
        due("37: each word", x::print, due);
        x.pin(0, 1);
        x.read(0, 1, 0);
        for (int k = 0; k < 40; k++) {
            x.go(1);
            due("37: in flight, too", x::print, due);
        }
        x.shape(8, 7, 8);
        x.write(0, 0, 0, 7);
        long v = 7;
        for (int k = 1; k < 512; k++) {
            v *= 31;
        }
        due("37: wraps around", x::print, v);
    }

    private static void status() {
        NearFar x = new NearFar();
        due("38: a", () -> x.read(9, 9, 9), MISSING);
        due("38: b", () -> x.told(99), UNFIT);
        due("38: c", () -> x.go(-5), UNFIT);
        due("38: missing", () -> x.status(0), 1);
        due("38: unfit", () -> x.status(1), 2);
        due("38: late", () -> x.status(2), 0);
        due("38: 3", () -> x.status(3), -1);
        due("38: -1", () -> x.status(-1), -1);
        due("38: no refusal by it", () -> x.status(1), 2);
        goTo(x, 1_000_000);
        due("38: d", () -> x.go(1), LATE);
        due("38: e", () -> x.burst(0, 0, 0, 1), LATE);
        due("38: late now", () -> x.status(2), 2);
    }
}
