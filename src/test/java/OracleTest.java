import java.util.ArrayList;
import java.util.Arrays;
import java.util.HashMap;
import java.util.List;
import java.util.Map;
import java.util.NoSuchElementException;
import java.util.Random;
import java.util.function.LongSupplier;

/**
 * Random runs of calls on a NearFar and on a second reading of the document (Oracle, below): written apart from the
 * program, tick by tick and with copies instead of scratch rows, so that a slip in one of them shows.
 */
public final class OracleTest {
    private static final String[] NAMES = {
        "shape", "feed", "rule", "work", "fault", "other", "so", "set", "read", "write", "pin", "unpin", "burst", "go",
        "flush", "told", "count", "latest", "group", "page", "majority", "where", "frame", "word", "tag", "order",
        "history", "would", "quiet", "split", "run", "tune", "enough", "ideal", "needs", "print", "status"};
    private static final int[] ARITY = {
        3, 5, 1, 1, 0, 2, 3, 2, 3, 4, 2, 1, 4, 1,
        0, 1, 1, 1, 2, 2, 1, 3, 3, 3, 1, 2,
        2, 4, 0, 2, 4, 2, 1, 0, 2, 0, 1};
    private static int wrong = 0;

    public static void main(String[] args) {
        int runs = args.length > 0 ? Integer.parseInt(args[0]) : 400;
        for (int seed = 1; seed <= runs && wrong == 0; seed++) {
            new OracleTest(seed).run();
        }
        System.out.println(wrong == 0 ? runs + " runs agree with the oracle" : "the oracle answers otherwise");
        if (wrong != 0) {
            System.exit(1);
        }
    }

    private final Random random;
    private final int seed;
    private final NearFar real = new NearFar();
    private final Oracle oracle = new Oracle();
    private final List<String> log = new ArrayList<>();
    private final int mood;

    private OracleTest(int seed) {
        this.seed = seed;
        this.random = new Random(seed);
        this.mood = seed % 6;
    }

    private void run() {
        if (mood >= 2) {
            check("shape", 1 + random.nextInt(8), 1 + random.nextInt(7), 1 + random.nextInt(8));
        }
        if (mood == 3) {
            // Near the end of the clock.
            for (int k = 0; k < 99; k++) {
                check("go", 10_000);
            }
            check("go", 9_000 + random.nextInt(1_000));
        }
        for (int k = 0; k < 500 && wrong == 0; k++) {
            step();
            if (k % 25 == 0) {
                lookRound();
            }
        }
        lookRound();
    }

    private int group() {
        return random.nextInt(100) == 0 ? edge() : mood == 4 ? random.nextInt(oracle.groups) : few(oracle.groups);
    }

    private int page() {
        return random.nextInt(100) == 0 ? edge() : few(oracle.ways + 1);
    }

    private int segment() {
        return random.nextInt(100) == 0 ? edge() : random.nextInt(oracle.segments);
    }

    private int few(int n) {
        return random.nextInt(3) == 0 ? random.nextInt(n) : random.nextInt(Math.min(2, n));
    }

    private int edge() {
        int[] edges = {-1, -2, 4, 7, 8, 9, Integer.MAX_VALUE, Integer.MIN_VALUE};
        return edges[random.nextInt(edges.length)];
    }

    private int between(int lowest, int highest) {
        int r = random.nextInt(40);
        if (r == 0) {
            return lowest - 1;
        }
        if (r == 1) {
            return highest + 1;
        }
        if (r == 2) {
            return highest;
        }
        if (r == 3) {
            return lowest;
        }
        return r == 4 ? edge() : lowest + random.nextInt(highest - lowest + 1);
    }

    private void step() {
        int r = random.nextInt(100);
        if (r < 30) {
            check("read", group(), page(), segment());
        } else if (r < 42) {
            check("write", group(), page(), segment(), random.nextInt());
        } else if (r < 52) {
            check("go", random.nextInt(4) == 0 ? between(1, 10_000) : 1 + random.nextInt(mood == 5 ? 100 : 12));
        } else if (r < 56) {
            check("burst", group(), page(), segment(), between(1, 50) % 12);
        } else if (r < 58) {
            check("flush");
        } else if (r < 62) {
            change();
        } else if (r < 65) {
            check("pin", group(), page());
        } else if (r < 68) {
            check("unpin", group());
        } else if (r < 75) {
            text();
        } else if (r < 76 && random.nextInt(4) == 0) {
            check("shape", between(1, 8), between(1, 7), between(1, 8));
        } else {
            ask();
        }
    }

    private void change() {
        int what = random.nextInt(20) == 0 ? edge() : random.nextInt(7);
        int[] high = {99, 99, 99, 8, 64, 99, 9_999};
        int v = what < 0 || what > 6 ? 1 : between(what < 3 ? 1 : 0, high[what]);
        if (random.nextInt(2) == 0) {
            v = 1 + random.nextInt(6);
        }
        check("set", what, v);
    }

    private void text() {
        int kind = random.nextInt(3);
        String text = kind == 1 ? work(2) : rule(3);
        if (random.nextInt(3) == 0) {
            text = spoiled(text);
        }
        if (random.nextInt(6) == 0) {
            StringBuilder b = new StringBuilder();
            for (char c : text.toCharArray()) {
                b.append(random.nextInt(3) == 0 ? " " : "").append(c);
            }
            text = random.nextInt(3) == 0 ? b.toString() : text.replace(" ", "   ");
        }
        int most = kind == 1 ? 200 : 120;
        if (text.length() > most + 1) {
            text = text.substring(0, most);
        }
        feed(text);
        int n = random.nextInt(12) == 0 ? between(0, most) : text.length();
        if (kind == 0) {
            check("rule", random.nextInt(8) == 0 ? 0 : n);
        } else if (kind == 1) {
            check("work", n);
        } else {
            check("other", n, random.nextInt(12) == 0 ? between(1, 99) : 1 + random.nextInt(20));
        }
        check("fault");
    }

    private void feed(String text) {
        for (int from = 0; from < text.length(); from += 20) {
            int[] five = new int[5];
            for (int k = 0; k < 20; k++) {
                int b = from + k < text.length() ? text.charAt(from + k) : random.nextInt(256);
                five[k / 4] = five[k / 4] << 8 | b;
            }
            check("feed", five);
        }
    }

    private String spoiled(String text) {
        StringBuilder b = new StringBuilder(text);
        String[] bits = {"(", ")", "and", "or ", "not ", "<", "=", ">", "+", "-", ";", "[", "]", "12345", "9999", "10000",
            "again 3 [", "read", "votes", "x", "A", "\u00e9", "\u0000", "99999999", "100000000", "4294967297", " ", "0", "8"};
        int at = random.nextInt(b.length() + 1);
        int r = random.nextInt(3);
        if (r == 0 && at < b.length()) {
            b.deleteCharAt(at);
        } else if (r == 1) {
            b.setLength(at);
        } else {
            b.insert(at, bits[random.nextInt(bits.length)]);
        }
        return b.toString();
    }

    private String rule(int depth) {
        int r = random.nextInt(30);
        if (r == 0) {
            return "(".repeat(5 + random.nextInt(3)) + "votes>1" + ")".repeat(6);
        }
        if (r == 1) {
            return "1=1 or ".repeat(18 + random.nextInt(3)).replace(" ", "") + "votes>2";
        }
        StringBuilder b = new StringBuilder();
        int parts = 1 + random.nextInt(2);
        for (int k = 0; k < parts; k++) {
            b.append(k > 0 ? random.nextBoolean() ? " and " : " or " : "");
            b.append(random.nextInt(3) == 0 ? "not " : "");
            if (depth > 0 && random.nextInt(3) == 0) {
                b.append("(").append(rule(depth - 1)).append(")");
            } else {
                b.append(sum()).append(" ").append("<=>".charAt(random.nextInt(3))).append(" ").append(sum());
            }
        }
        return b.toString();
    }

    private String sum() {
        String[] units = {"votes", "swapped", "orders", "near", "far", "limit", "page", "hits", "misses", "plain"};
        StringBuilder b = new StringBuilder();
        int parts = 1 + random.nextInt(5) / 3;
        for (int k = 0; k < parts; k++) {
            b.append(k > 0 ? random.nextBoolean() ? "+" : "-" : "");
            b.append(random.nextInt(3) == 0 ? String.valueOf(random.nextInt(8)) : units[random.nextInt(units.length)]);
        }
        return b.toString();
    }

    private String work(int depth) {
        StringBuilder b = new StringBuilder();
        int steps = random.nextInt(4);
        for (int k = 0; k < steps; k++) {
            String gp = random.nextInt(oracle.groups) + " " + few(oracle.ways + 1);
            int r = random.nextInt(12);
            if (r < 4) {
                b.append("read ").append(gp).append(" ").append(random.nextInt(oracle.segments));
            } else if (r < 6) {
                b.append("write ").append(gp).append(" ").append(random.nextInt(oracle.segments)).append(" ");
                b.append(random.nextInt(100_000_000));
            } else if (r < 8) {
                b.append("sweep ").append(gp);
            } else if (r == 8) {
                b.append("wait ").append(random.nextInt(4) == 0 ? random.nextInt(1_001) : 1 + random.nextInt(9));
            } else if (r == 9) {
                b.append("flush");
            } else if (depth > 0) {
                b.append("again ").append(random.nextInt(4) == 0 ? random.nextInt(42) : random.nextInt(4));
                b.append("[").append(work(depth - 1)).append("]");
            } else if (random.nextInt(8) == 0) {
                int deep = 3 + random.nextInt(4);
                b.append("again 40[".repeat(deep)).append("];".repeat(deep - 1)).append("]");
            } else {
                b.append("again 40[again 7[").append(work(0)).append("];]");
            }
            b.append(";");
        }
        return b.toString();
    }

    private void ask() {
        String name = NAMES[15 + random.nextInt(NAMES.length - 15)];
        switch (name) {
            case "told": check(name, between(0, 20)); break;
            case "count": check(name, between(0, 8)); break;
            case "latest": check(name, between(0, 2)); break;
            case "group": check(name, group(), between(0, 9)); break;
            case "page": case "needs": check(name, group(), page()); break;
            case "majority": check(name, group()); break;
            case "where": case "frame": case "word": check(name, group(), page(), segment()); break;
            case "tag": check(name, between(-1, 8)); break;
            case "order": check(name, between(0, 16), between(0, 3)); break;
            case "history": check(name, between(0, 63), between(0, 3)); break;
            case "would": check(name, group(), page(), segment(), between(0, 2)); break;
            case "split": check(name, between(1, random.nextInt(2) == 0 ? 1_000 : 9), between(0, 1)); break;
            case "run":
                check(name, random.nextInt(2) == 0 ? between(1, 99) : 1 + random.nextInt(4), between(0, 8),
                        between(1, 99), between(0, 4));
                break;
            case "tune": check(name, between(1, 99), between(0, 1)); break;
            case "enough": check(name, between(1, 99)); break;
            case "status": check(name, between(0, 2)); break;
            default: check(name); break;
        }
    }

    private void lookRound() {
        for (int k = -1; k <= 21; k++) {
            check("told", k);
        }
        for (int k = 0; k < 9; k++) {
            check("count", k);
            check("latest", k % 3);
            check("tag", k);
        }
        for (int k = 0; k < 4; k++) {
            check("status", k);
            check("order", 0, k);
            check("order", oracle.orders.size() - 1, k);
            check("history", oracle.past.size() - 1, k);
        }
        for (int g = 0; g < oracle.groups; g++) {
            for (int k = 0; k < 10; k++) {
                check("group", g, k);
            }
            check("majority", g);
            for (int p = 0; p <= oracle.ways; p++) {
                check("page", g, p);
                check("needs", g, p);
                for (int s = 0; s < oracle.segments; s++) {
                    check("where", g, p, s);
                    check("frame", g, p, s);
                    check("word", g, p, s);
                }
                check("so", g, p, random.nextInt(oracle.segments));
                check("would", g, p, random.nextInt(oracle.segments), random.nextInt(3));
            }
        }
        check("quiet");
        check("ideal");
        check("print");
    }

    private void check(String name, int... a) {
        int which = Arrays.asList(NAMES).indexOf(name);
        if (ARITY[which] != a.length) {
            throw new IllegalStateException("the test calls " + name + " wrongly");
        }
        String got = answer(() -> ofReal(name, a));
        String due = oracle.answer(name, a);
        log.add(name + Arrays.toString(a) + " " + got);
        if (!got.equals(due) && wrong == 0) {
            wrong++;
            System.out.println("seed " + seed + ": " + name + Arrays.toString(a) + " answered " + got + ", the oracle " + due);
            for (int k = Math.max(0, log.size() - 40); k < log.size(); k++) {
                System.out.println("  " + log.get(k));
            }
        }
    }

    static String answer(LongSupplier call) {
        try {
            return String.valueOf(call.getAsLong());
        } catch (RuntimeException e) {
            return "throws." + e.getClass().getSimpleName();
        }
    }

    private long ofReal(String name, int[] a) {
        NearFar x = real;
        switch (name) {
            case "shape": return x.shape(a[0], a[1], a[2]);
            case "feed": return x.feed(a[0], a[1], a[2], a[3], a[4]);
            case "rule": return x.rule(a[0]);
            case "work": return x.work(a[0]);
            case "fault": return x.fault();
            case "other": return x.other(a[0], a[1]);
            case "so": return x.so(a[0], a[1], a[2]) ? 1 : 0;
            case "set": return x.set(a[0], a[1]);
            case "read": return x.read(a[0], a[1], a[2]);
            case "write": return x.write(a[0], a[1], a[2], a[3]);
            case "pin": return x.pin(a[0], a[1]);
            case "unpin": return x.unpin(a[0]);
            case "burst": return x.burst(a[0], a[1], a[2], a[3]);
            case "go": return x.go(a[0]);
            case "flush": return x.flush();
            case "told": return x.told(a[0]);
            case "count": return x.count(a[0]);
            case "latest": return x.latest(a[0]);
            case "group": return x.group(a[0], a[1]);
            case "page": return x.page(a[0], a[1]);
            case "majority": return x.majority(a[0]);
            case "where": return x.where(a[0], a[1], a[2]);
            case "frame": return x.frame(a[0], a[1], a[2]);
            case "word": return x.word(a[0], a[1], a[2]);
            case "tag": return x.tag(a[0]);
            case "order": return x.order(a[0], a[1]);
            case "history": return x.history(a[0], a[1]);
            case "would": return x.would(a[0], a[1], a[2], a[3]);
            case "quiet": return x.quiet();
            case "split": return x.split(a[0], a[1]);
            case "run": return x.run(a[0], a[1], a[2], a[3]);
            case "tune": return x.tune(a[0], a[1]);
            case "enough": return x.enough(a[0]);
            case "ideal": return x.ideal();
            case "needs": return x.needs(a[0], a[1]);
            case "print": return x.print();
            default: return x.status(a[0]);
        }
    }
}

/** The document, read a second time. */
final class Oracle implements Cloneable {
    static final int END_OF_TIME = 1_000_000;

    static final class Group implements Cloneable {
        int resident = -1;
        boolean[] swapped = new boolean[8];
        int candidate = 0;
        int votes = 0;
        int since = 0;
        int pin = -1;
        int[] asked = new int[8];
        int[][] frames = new int[8][8];

        int many() {
            int n = 0;
            for (boolean b : swapped) {
                n += b ? 1 : 0;
            }
            return n;
        }

        Group copy() {
            Group c = new Group();
            c.resident = resident;
            c.swapped = swapped.clone();
            c.candidate = candidate;
            c.votes = votes;
            c.since = since;
            c.pin = pin;
            c.asked = asked.clone();
            for (int f = 0; f < 8; f++) {
                c.frames[f] = frames[f].clone();
            }
            return c;
        }
    }

    static final class Order {
        final int group;
        final int segment;
        int phase = 0;
        int end = -1;

        Order(int group, int segment) {
            this.group = group;
            this.segment = segment;
        }

        Order copy() {
            Order o = new Order(group, segment);
            o.phase = phase;
            o.end = end;
            return o;
        }
    }

    /** A FAULT of a text. */
    static final class Fault extends RuntimeException {
        private static final long serialVersionUID = 1L;
        final int kind;
        final int place;

        Fault(int kind, int place) {
            this.kind = kind;
            this.place = place;
        }
    }

    int groups = 4;
    int ways = 3;
    int segments = 4;
    int nt = 2;
    int ft = 6;
    int least = 3;
    int size = 2;
    int window = 0;
    int pace = 1;
    int age = 0;
    String rule = null;

    int now;
    int limit;
    int nearFree;
    int farFree;
    int bufferA;
    int bufferB;
    int ended;
    int wanting;
    List<Group> all;
    List<Integer> tags;
    List<Order> orders;
    List<int[]> past;
    List<int[]> inWindow;
    long accesses;
    long[] by;
    long[] kinds;
    long latencies;
    long greatest;
    int[] latest;
    List<Integer> tape;
    int faultPlace;
    int[] refused;

    Oracle() {
        begin();
        tape = new ArrayList<>();
        faultPlace = -1;
        refused = new int[3];
    }

    void begin() {
        now = 0;
        limit = groups;
        nearFree = 0;
        farFree = 0;
        ended = 0;
        wanting = 0;
        all = new ArrayList<>();
        for (int g = 0; g < groups; g++) {
            all.add(new Group());
        }
        tags = new ArrayList<>();
        orders = new ArrayList<>();
        past = new ArrayList<>();
        inWindow = new ArrayList<>();
        accesses = 0;
        by = new long[3];
        kinds = new long[3];
        latencies = 0;
        greatest = 0;
        latest = new int[] {-1, -1, -1};
    }

    Oracle copy() {
        try {
            Oracle o = (Oracle) clone();
            o.all = new ArrayList<>();
            for (Group g : all) {
                o.all.add(g.copy());
            }
            o.orders = new ArrayList<>();
            for (Order x : orders) {
                o.orders.add(x.copy());
            }
            o.tags = new ArrayList<>(tags);
            o.past = new ArrayList<>(past);
            o.inWindow = new ArrayList<>(inWindow);
            o.by = by.clone();
            o.kinds = kinds.clone();
            o.latest = latest.clone();
            return o;
        } catch (CloneNotSupportedException e) {
            throw new IllegalStateException(e);
        }
    }

    int useNear(int from) {
        nearFree = Math.max(from, nearFree) + nt;
        return nearFree;
    }

    int useFar(int from) {
        farFree = Math.max(from, farFree) + ft;
        return farFree;
    }

    boolean ordered(int g) {
        return orders.stream().anyMatch(o -> o.group == g);
    }

    int place(int g, int p, int s) {
        Group x = all.get(g);
        Order o = orders.isEmpty() ? null : orders.get(0);
        boolean flying = o != null && o.group == g && o.segment == s && (p == 0 || p == x.resident);
        int home = p;
        int stood = home;
        if (x.swapped[s] && p == 0) {
            stood = x.resident;
        } else if (x.swapped[s] && p == x.resident) {
            stood = 0;
        }
        if (!flying) {
            return stood;
        }
        int done = o.phase - 1;
        if (stood == 0) {
            return done >= 1 ? -2 : 0;
        }
        return done >= 3 ? 0 : done == 2 ? -3 : stood;
    }

    int at(int g, int place, int s) {
        return place == -2 ? bufferA : place == -3 ? bufferB : all.get(g).frames[place][s];
    }

    int aged(int g) {
        Group x = all.get(g);
        int v = x.votes;
        if (age != 0) {
            for (int t = x.since + age; t <= now && v > 0; t += age) {
                v = v / 2;
            }
        }
        return v;
    }

    /** An ACCESS; if only thought, (a) to (c) of it. */
    int access(int g, int p, int s, Integer word, boolean thought) {
        Group x = all.get(g);
        int kind;
        int from = now;
        if (x.many() == 0 && !ordered(g)) {
            kind = 0;
        } else if (tags.contains(g)) {
            kind = 1;
            tags.remove((Integer) g);
            tags.add(0, g);
        } else {
            kind = 2;
            from = useNear(now);
            tags.add(0, g);
            while (tags.size() > size) {
                tags.remove(tags.size() - 1);
            }
        }
        int place = place(g, p, s);
        int what = at(g, place, s);
        if (word != null) {
            if (place == -2) {
                bufferA = word;
            } else if (place == -3) {
                bufferB = word;
            } else {
                x.frames[place][s] = word;
            }
        }
        int where = place < 0 ? 2 : place == 0 ? 0 : 1;
        int end = where == 2 ? from + 1 : where == 0 ? useNear(from) : useFar(from);
        latest = new int[] {end - now, where, kind};
        accesses++;
        by[where]++;
        kinds[kind]++;
        latencies += end - now;
        greatest = Math.max(greatest, end - now);
        past.add(0, new int[] {g, p, s, word != null ? 1 : 0});
        while (past.size() > 64) {
            past.remove(64);
        }
        int v = aged(g);
        if (x.candidate == p) {
            v++;
        } else if (v == 0) {
            x.candidate = p;
            v = 1;
        } else {
            v--;
        }
        x.votes = v;
        x.since = now;
        x.asked[p]++;
        if (thought) {
            return what;
        }
        if (x.pin == -1) {
            if (isSo(g, p) && g < limit && p == x.candidate) {
                compete(g, p, s);
            }
        } else if (x.pin == p) {
            compete(g, p, s);
        }
        weigh(where);
        return what;
    }

    void compete(int g, int c, int s) {
        Group x = all.get(g);
        if (c >= 1 && x.resident == -1) {
            x.resident = c;
        }
        if (c == 0) {
            if (x.swapped[s]) {
                order(g, s);
            }
        } else if (c == x.resident) {
            if (!x.swapped[s]) {
                order(g, s);
            }
        } else {
            orderSwapped(g);
        }
        if (x.many() == 0 && !ordered(g)) {
            x.resident = -1;
        }
    }

    void weigh(int where) {
        if (window == 0) {
            return;
        }
        inWindow.add(new int[] {where});
        if (inWindow.size() < window) {
            return;
        }
        long near = inWindow.stream().filter(w -> w[0] == 0).count() * nt;
        long far = inWindow.stream().filter(w -> w[0] == 1).count() * ft;
        inWindow.clear();
        if (near > far && limit > 0) {
            limit--;
            if (all.get(limit).pin == -1) {
                orderSwapped(limit);
            }
        } else if (near < far && limit < groups) {
            limit++;
        }
    }

    void orderSwapped(int g) {
        for (int s = 0; s < segments; s++) {
            if (all.get(g).swapped[s]) {
                order(g, s);
            }
        }
    }

    void order(int g, int s) {
        if (orders.stream().anyMatch(o -> o.group == g && o.segment == s)) {
            return;
        }
        if (orders.size() == 16) {
            wanting++;
            return;
        }
        orders.add(new Order(g, s));
        if (orders.size() == 1) {
            orders.get(0).phase = 1;
            orders.get(0).end = useNear(now);
        }
    }

    void tick() {
        now++;
        while (!orders.isEmpty() && orders.get(0).end == now) {
            Order o = orders.get(0);
            Group x = all.get(o.group);
            if (o.phase == 1) {
                bufferA = x.frames[0][o.segment];
                o.phase = 2;
                o.end = useFar(now);
            } else if (o.phase == 2) {
                bufferB = x.frames[x.resident][o.segment];
                o.phase = 3;
                o.end = useNear(now);
            } else if (o.phase == 3) {
                x.frames[0][o.segment] = bufferB;
                o.phase = 4;
                o.end = useFar(now);
            } else {
                x.frames[x.resident][o.segment] = bufferA;
                x.swapped[o.segment] = !x.swapped[o.segment];
                orders.remove(0);
                ended++;
                if (x.many() == 0 && !ordered(o.group)) {
                    x.resident = -1;
                }
                if (!orders.isEmpty()) {
                    orders.get(0).phase = 1;
                    orders.get(0).end = useNear(now);
                }
            }
        }
    }

    void ticks(int n) {
        if (orders.isEmpty()) {
            now += n;
            return;
        }
        for (int k = 0; k < n; k++) {
            tick();
        }
    }

    int swappedInAll() {
        int n = 0;
        for (Group x : all) {
            n += x.many();
        }
        return n;
    }

    int bringHome() {
        int from = now;
        do {
            for (int g = 0; g < groups; g++) {
                for (int s = 0; s < segments; s++) {
                    if (all.get(g).swapped[s] && orders.size() < 16) {
                        order(g, s);
                    }
                }
            }
            while (!orders.isEmpty()) {
                tick();
            }
        } while (swappedInAll() > 0);
        return now - from;
    }

    boolean isSo(int g, int p) {
        return rule == null ? all.get(g).votes >= least : new Parser(rule).rule(values(g, p));
    }

    Map<String, Long> values(int g, int p) {
        Map<String, Long> m = new HashMap<>();
        m.put("votes", (long) all.get(g).votes);
        m.put("swapped", (long) all.get(g).many());
        m.put("orders", (long) orders.size());
        m.put("near", (long) Math.max(0, nearFree - now));
        m.put("far", (long) Math.max(0, farFree - now));
        m.put("limit", (long) limit);
        m.put("page", (long) p);
        m.put("hits", kinds[1]);
        m.put("misses", kinds[2]);
        m.put("plain", latest[2] == 0 ? 1L : 0L);
        return m;
    }

    /** Reads texts; a RULE is worked out while it is read, WORK makes a list of STEPS. */
    final class Parser {
        final String text;
        int at = 0;
        int signs = 0;
        int open = 0;

        Parser(String text) {
            this.text = text;
        }

        String peek() {
            int k = at;
            while (k < text.length() && text.charAt(k) == ' ') {
                k++;
            }
            int e = k;
            while (e < text.length() && Character.toString(text.charAt(e)).matches("[0-9]")) {
                e++;
            }
            if (e == k) {
                while (e < text.length() && Character.toString(text.charAt(e)).matches("[a-z]")) {
                    e++;
                }
            }
            if (e == k && k < text.length()) {
                e++;
            }
            return text.substring(k, e);
        }

        int start() {
            int k = at;
            while (k < text.length() && text.charAt(k) == ' ') {
                k++;
            }
            return k;
        }

        String next() {
            String t = peek();
            at = start() + t.length();
            return t;
        }

        Fault misplaced() {
            return new Fault(1, start());
        }

        void expect(String t) {
            if (!peek().equals(t)) {
                throw misplaced();
            }
            next();
        }

        int number(int lowest, int highest) {
            String t = peek();
            if (!t.matches("[0-9]+")) {
                throw misplaced();
            }
            java.math.BigInteger v = new java.math.BigInteger(t);
            if (v.compareTo(java.math.BigInteger.valueOf(lowest)) < 0
                    || v.compareTo(java.math.BigInteger.valueOf(highest)) > 0) {
                throw new Fault(2, start());
            }
            next();
            return v.intValue();
        }

        boolean rule(Map<String, Long> m) {
            boolean v = either(m);
            if (!peek().isEmpty()) {
                throw misplaced();
            }
            return v;
        }

        boolean either(Map<String, Long> m) {
            boolean v = both(m);
            while (peek().equals("or")) {
                next();
                v = both(m) | v;
            }
            return v;
        }

        boolean both(Map<String, Long> m) {
            boolean v = maybeNot(m);
            while (peek().equals("and")) {
                next();
                v = maybeNot(m) & v;
            }
            return v;
        }

        boolean maybeNot(Map<String, Long> m) {
            if (peek().equals("not")) {
                next();
                return !part(m);
            }
            return part(m);
        }

        boolean part(Map<String, Long> m) {
            if (peek().equals("(")) {
                if (open == 6) {
                    throw new Fault(3, start());
                }
                open++;
                next();
                boolean v = either(m);
                expect(")");
                open--;
                return v;
            }
            long a = term(m);
            if (!peek().matches("[<=>]")) {
                throw misplaced();
            }
            if (++signs > 20) {
                throw new Fault(3, start());
            }
            String s = next();
            long b = term(m);
            return s.equals("<") ? a < b : s.equals("=") ? a == b : a > b;
        }

        long term(Map<String, Long> m) {
            long v = unit(m);
            while (peek().equals("+") || peek().equals("-")) {
                v = next().equals("+") ? v + unit(m) : v - unit(m);
            }
            return v;
        }

        long unit(Map<String, Long> m) {
            return m.containsKey(peek()) ? m.get(next()) : number(0, 9_999);
        }

        List<Object> work() {
            List<Object> steps = steps(0);
            if (!peek().isEmpty()) {
                throw misplaced();
            }
            return steps;
        }

        List<Object> steps(int depth) {
            List<Object> list = new ArrayList<>();
            while (!peek().isEmpty() && !peek().equals("]")) {
                list.add(step(depth));
                expect(";");
            }
            return list;
        }

        Object step(int depth) {
            switch (peek()) {
                case "read": next(); return new int[] {0, group(), way(), segment()};
                case "write": next(); return new int[] {1, group(), way(), segment(), number(0, 99_999_999)};
                case "sweep": next(); return new int[] {2, group(), way()};
                case "wait": next(); return new int[] {3, number(1, 999)};
                case "flush": next(); return new int[] {4};
                case "again":
                    if (depth == 5) {
                        throw new Fault(3, start());
                    }
                    next();
                    List<Object> again = new ArrayList<>();
                    again.add(number(0, 40));
                    expect("[");
                    again.add(steps(depth + 1));
                    expect("]");
                    return again;
                default: throw misplaced();
            }
        }

        int group() {
            return number(0, groups - 1);
        }

        int way() {
            return number(0, ways);
        }

        int segment() {
            return number(0, segments - 1);
        }
    }

    /** Thrown where a WORK ends. */
    static final class Over extends RuntimeException {
        private static final long serialVersionUID = 1L;
    }

    int stepsBegun;
    int workAccesses;

    @SuppressWarnings("unchecked")
    void carryOut(List<Object> steps) {
        for (Object o : steps) {
            if (stepsBegun == 2_000) {
                throw new Over();
            }
            stepsBegun++;
            if (o instanceof List) {
                List<Object> again = (List<Object>) o;
                for (int k = 0; k < (Integer) again.get(0); k++) {
                    carryOut((List<Object>) again.get(1));
                }
                continue;
            }
            int[] a = (int[]) o;
            if (a[0] == 0) {
                workAccess(a[1], a[2], a[3], null);
            } else if (a[0] == 1) {
                workAccess(a[1], a[2], a[3], a[4]);
            } else if (a[0] == 2) {
                for (int s = 0; s < segments; s++) {
                    workAccess(a[1], a[2], s, null);
                }
            } else if (a[0] == 3) {
                workWait(a[1]);
            } else {
                Oracle o2 = copy();
                o2.bringHome();
                if (o2.now > END_OF_TIME) {
                    throw new Over();
                }
                bringHome();
            }
        }
    }

    void workAccess(int g, int p, int s, Integer word) {
        if (workAccesses == 400) {
            throw new Over();
        }
        workAccesses++;
        access(g, p, s, word, false);
        workWait(pace);
    }

    void workWait(int n) {
        if (now + n > END_OF_TIME) {
            throw new Over();
        }
        ticks(n);
    }

    Oracle runOf(int least, int size, int gap, String rule) {
        Oracle o = copy();
        o.begin();
        o.least = least;
        o.size = size;
        o.window = 0;
        o.rule = rule;
        for (int k = past.size() - 1; k >= 0; k--) {
            if (k != past.size() - 1) {
                o.ticks(gap);
            }
            int[] a = past.get(k);
            o.access(a[0], a[1], a[2], null, false);
        }
        return o;
    }

    String answer(String name, int[] a) {
        String r = OracleTest.answer(() -> call(name, a));
        if (r.equals("throws.NoSuchElementException")) {
            refused[0]++;
        } else if (r.equals("throws.IllegalArgumentException")) {
            refused[1]++;
        } else if (r.equals("throws.IllegalStateException")) {
            refused[2]++;
        }
        return r;
    }

    void has(boolean b) {
        if (!b) {
            throw new NoSuchElementException();
        }
    }

    void fit(int v, int lowest, int highest) {
        if (v < lowest || v > highest) {
            throw new IllegalArgumentException();
        }
    }

    void inTime(int tick) {
        if (tick > END_OF_TIME) {
            throw new IllegalStateException();
        }
    }

    void group(int g) {
        has(g >= 0 && g < groups);
    }

    void page(int g, int p) {
        group(g);
        has(p >= 0 && p <= ways);
    }

    void segment(int g, int p, int s) {
        page(g, p);
        has(s >= 0 && s < segments);
    }

    String taken(int n) {
        StringBuilder b = new StringBuilder();
        for (int k = 0; k < n; k++) {
            b.append((char) (int) tape.get(k));
        }
        tape.clear();
        faultPlace = -1;
        return b.toString();
    }

    long call(String name, int[] a) {
        switch (name) {
            case "shape":
                fit(a[0], 1, 8);
                fit(a[1], 1, 7);
                fit(a[2], 1, 8);
                groups = a[0];
                ways = a[1];
                segments = a[2];
                begin();
                tape.clear();
                faultPlace = -1;
                refused = new int[3];
                return groups * (ways + 1) * segments;
            case "feed":
                if (tape.size() + 20 > 300) {
                    return -1;
                }
                for (int v : a) {
                    for (int k = 3; k >= 0; k--) {
                        tape.add(v >> 8 * k & 255);
                    }
                }
                return tape.size();
            case "rule": case "work": case "other": return ofText(name, a);
            case "fault": return faultPlace;
            case "so": {
                segment(a[0], a[1], a[2]);
                Oracle o = copy();
                o.access(a[0], a[1], a[2], null, true);
                return o.isSo(a[0], a[1]) ? 1 : 0;
            }
            case "set": return set(a[0], a[1]);
            case "read": segment(a[0], a[1], a[2]); return access(a[0], a[1], a[2], null, false);
            case "write": segment(a[0], a[1], a[2]); return access(a[0], a[1], a[2], a[3], false);
            case "pin": {
                page(a[0], a[1]);
                int was = all.get(a[0]).pin;
                all.get(a[0]).pin = a[1];
                return was;
            }
            case "unpin": {
                group(a[0]);
                int was = all.get(a[0]).pin;
                all.get(a[0]).pin = -1;
                return was;
            }
            case "burst": {
                segment(a[0], a[1], a[2]);
                fit(a[3], 1, 50);
                inTime(now + a[3]);
                long before = latencies;
                for (int k = 0; k < a[3]; k++) {
                    access(a[0], a[1], a[2], null, false);
                    ticks(1);
                }
                return latencies - before;
            }
            case "go": {
                fit(a[0], 1, 10_000);
                inTime(now + a[0]);
                int before = ended;
                ticks(a[0]);
                return ended - before;
            }
            case "flush": {
                Oracle o = copy();
                o.bringHome();
                inTime(o.now);
                return bringHome();
            }
            default: return ask(name, a);
        }
    }

    long ofText(String name, int[] a) {
        int most = name.equals("work") ? 200 : 120;
        fit(a[0], name.equals("other") ? 1 : 0, most);
        fit(a[0], 0, tape.size());
        if (name.equals("other")) {
            fit(a[1], 1, 99);
        }
        String text = taken(a[0]);
        int less = name.equals("other") ? 1_000_000_010 : 10;
        try {
            if (name.equals("work")) {
                List<Object> steps = new Parser(text).work();
                stepsBegun = 0;
                workAccesses = 0;
                try {
                    carryOut(steps);
                } catch (Over e) {
                    return workAccesses;
                }
                return workAccesses;
            }
            if (text.isEmpty()) {
                rule = null;
                return 0;
            }
            Parser p = new Parser(text);
            p.rule(values(0, 0));
            if (name.equals("rule")) {
                rule = text;
                return p.signs;
            }
            return runOf(least, size, a[1], text).latencies - runOf(least, size, a[1], rule).latencies;
        } catch (Fault f) {
            faultPlace = f.place;
            return f.kind - less;
        }
    }

    int set(int what, int v) {
        fit(what, 0, 6);
        int was;
        switch (what) {
            case 0: fit(v, 1, 99); was = nt; nt = v; break;
            case 1: fit(v, 1, 99); was = ft; ft = v; break;
            case 2: fit(v, 1, 99); was = least; least = v; break;
            case 3:
                fit(v, 0, 8);
                was = size;
                size = v;
                while (tags.size() > v) {
                    tags.remove(tags.size() - 1);
                }
                break;
            case 4:
                fit(v, 0, 64);
                was = window;
                window = v;
                inWindow.clear();
                limit = v == 0 ? groups : limit;
                break;
            case 5: fit(v, 0, 99); was = pace; pace = v; break;
            default: fit(v, 0, 9_999); was = age; age = v; break;
        }
        return was;
    }

    long told(int what) {
        int pins = 0;
        for (int g = 0; g < groups; g++) {
            pins += all.get(g).pin != -1 ? 1 << g : 0;
        }
        int signs = 0;
        if (rule != null) {
            signs = rule.replaceAll("[^<=>]", "").length();
        }
        int[] t = {groups, ways, segments, now, orders.size(), limit, nearFree, farFree, swappedInAll(), ended, wanting,
            nt, ft, least, size, window, pace, signs, tape.size(), age, pins};
        return t[what];
    }

    long ofGroup(int g, int what) {
        Group x = all.get(g);
        int bits = 0;
        for (int s = 0; s < 8; s++) {
            bits += x.swapped[s] ? 1 << s : 0;
        }
        int[] t = {x.resident, bits, x.candidate, x.votes, Arrays.stream(x.asked).sum(), g < limit ? 1 : 0,
            tags.indexOf(g), (int) orders.stream().filter(o -> o.group == g).count(), x.pin, aged(g)};
        return t[what];
    }

    long ask(String name, int[] a) {
        switch (name) {
            case "told": fit(a[0], 0, 20); return told(a[0]);
            case "count":
                fit(a[0], 0, 8);
                return new long[] {accesses, by[0], by[1], by[2], kinds[0], kinds[1], kinds[2], latencies, greatest}[a[0]];
            case "latest": fit(a[0], 0, 2); return latest[a[0]];
            case "group": group(a[0]); fit(a[1], 0, 9); return ofGroup(a[0], a[1]);
            case "page": page(a[0], a[1]); return all.get(a[0]).asked[a[1]];
            case "majority": {
                group(a[0]);
                int[] asked = all.get(a[0]).asked;
                int sum = Arrays.stream(asked).sum();
                for (int p = 0; p <= ways; p++) {
                    if (asked[p] > sum - asked[p]) {
                        return p;
                    }
                }
                return -1;
            }
            case "where": segment(a[0], a[1], a[2]); return place(a[0], a[1], a[2]);
            case "frame": segment(a[0], a[1], a[2]); return all.get(a[0]).frames[a[1]][a[2]];
            case "word": segment(a[0], a[1], a[2]); return at(a[0], place(a[0], a[1], a[2]), a[2]);
            case "tag": return a[0] >= 0 && a[0] < tags.size() ? tags.get(a[0]) : -1;
            case "order": {
                has(a[0] >= 0 && a[0] < orders.size());
                fit(a[1], 0, 3);
                Order o = orders.get(a[0]);
                return new int[] {o.group, o.segment, o.phase, o.end}[a[1]];
            }
            case "history":
                has(a[0] >= 0 && a[0] < past.size());
                fit(a[1], 0, 3);
                return past.get(a[0])[a[1]];
            case "would": {
                segment(a[0], a[1], a[2]);
                fit(a[3], 0, 2);
                Oracle o = copy();
                o.access(a[0], a[1], a[2], null, false);
                return o.latest[a[3]];
            }
            case "quiet": {
                Oracle o = copy();
                while (!o.orders.isEmpty()) {
                    o.tick();
                }
                return o.now;
            }
            case "split": return split(a[0], a[1]);
            default: return judge(name, a);
        }
    }

    long split(int requests, int what) {
        fit(requests, 1, 1_000);
        fit(what, 0, 1);
        long best = Long.MAX_VALUE;
        int most = 0;
        for (int near = requests; near >= 0; near--) {
            Oracle o = copy();
            int last = 0;
            for (int k = 0; k < near; k++) {
                last = Math.max(last, o.useNear(now));
            }
            for (int k = near; k < requests; k++) {
                last = Math.max(last, o.useFar(now));
            }
            if (last < best) {
                best = last;
                most = near;
            }
        }
        return what == 0 ? most : best - now;
    }

    long judge(String name, int[] a) {
        switch (name) {
            case "run": {
                fit(a[0], 1, 99);
                fit(a[1], 0, 8);
                fit(a[2], 1, 99);
                fit(a[3], 0, 4);
                Oracle o = runOf(a[0], a[1], a[2], null);
                return new long[] {o.latencies, o.by[0], o.ended, o.kinds[2], o.swappedInAll()}[a[3]];
            }
            case "tune": {
                fit(a[0], 1, 99);
                fit(a[1], 0, 1);
                int best = 20;
                for (int l = 20; l >= 1; l--) {
                    if (runOf(l, size, a[0], null).latencies <= runOf(best, size, a[0], null).latencies) {
                        best = l;
                    }
                }
                return a[1] == 0 ? best : runOf(best, size, a[0], null).latencies;
            }
            case "enough": {
                fit(a[0], 1, 99);
                int z = 0;
                while (runOf(least, z, a[0], null).kinds[2] > runOf(least, 8, a[0], null).kinds[2]) {
                    z++;
                }
                return z;
            }
            case "ideal": {
                Map<Integer, int[]> m = new HashMap<>();
                for (int[] h : past) {
                    m.computeIfAbsent(h[0], k -> new int[8])[h[1]]++;
                }
                return m.values().stream().mapToInt(c -> Arrays.stream(c).max().getAsInt()).sum();
            }
            case "needs": {
                page(a[0], a[1]);
                Oracle o = copy();
                Group x = o.all.get(a[0]);
                x.votes = aged(a[0]);
                x.since = now;
                int n = 0;
                while (x.candidate != a[1] || x.votes < least) {
                    o.access(a[0], a[1], 0, null, true);
                    n++;
                }
                return n;
            }
            case "print": {
                long v = 0;
                for (int g = 0; g < groups; g++) {
                    for (int p = 0; p <= ways; p++) {
                        for (int s = 0; s < segments; s++) {
                            v = v * 31 + at(g, place(g, p, s), s);
                        }
                    }
                }
                return v;
            }
            default: return a[0] >= 0 && a[0] <= 2 ? refused[a[0]] : -1;
        }
    }
}
