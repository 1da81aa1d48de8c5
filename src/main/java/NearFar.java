import java.util.Arrays;
import java.util.NoSuchElementException;

/**
 * Near and far memory: groups of pages that share one near frame and compete for it by votes.
 * What each call promises stands in DOC.md; the words of that document are used here.
 */
public final class NearFar {
    public static final int NONE = -1;

    private static final int MOST_GROUPS = 8;
    private static final int MOST_FRAMES = 8;
    private static final int MOST_SEGMENTS = 8;
    private static final int LAST_TICK = 1_000_000;

    // The numbers of set(); NT and FT stand where the channels that they belong to do.
    private static final int LEAST = 2;
    private static final int SIZE = 3;
    private static final int WINDOW = 4;
    private static final int PACE = 5;
    private static final int AGE = 6;
    private static final int[] LOWEST = {1, 1, 1, 0, 0, 0, 0};
    private static final int[] HIGHEST = {99, 99, 99, 8, 64, 99, 9_999};

    private static final int NEAR = 0;
    private static final int FAR = 1;
    private static final int BUFFER = 2;
    private static final int BUFFER_A = -2;
    private static final int BUFFER_B = -3;

    private static final int PLAIN = 0;
    private static final int HIT = 1;
    private static final int MISS = 2;

    private static final int MISSING = 0;
    private static final int UNFIT = 1;
    private static final int TOO_LATE = 2;

    private static final int MOST_RULE_BYTES = 120;
    private static final int MOST_WORK_BYTES = 200;
    private static final int MOST_GAP = 99;

    private final World world = new World();
    // Where a call only asks what would be, it is tried out here, so that the world stays as it is.
    private final World thought = new World();
    private final Text tape = new Text();
    private final Rule draft = new Rule();
    private final Work plan = new Work();
    private final int[] refused = new int[3];

    public NearFar() {
    }

    public int shape(int groups, int ways, int segments) throws IllegalArgumentException {
        needBetween(groups, 1, MOST_GROUPS);
        needBetween(ways, 1, MOST_FRAMES - 1);
        needBetween(segments, 1, MOST_SEGMENTS);
        world.restart(groups, ways, segments);
        tape.clear();
        Arrays.fill(refused, 0);
        return groups * (ways + 1) * segments;
    }

    public int feed(int a, int b, int c, int d, int e) {
        if (!tape.hasRoom()) {
            return NONE;
        }
        tape.append(a);
        tape.append(b);
        tape.append(c);
        tape.append(d);
        tape.append(e);
        return tape.held;
    }

    public int rule(int n) throws IllegalArgumentException {
        needText(n, 0, MOST_RULE_BYTES);
        tape.take(n);
        draft.clear();
        if (n > 0) {
            draft.parse(tape);
        }
        if (tape.fault != 0) {
            return tape.fault - 10;
        }
        world.rule.copyFrom(draft);
        return draft.signs;
    }

    public int work(int n) throws IllegalArgumentException {
        needText(n, 0, MOST_WORK_BYTES);
        tape.take(n);
        plan.parse(tape, world);
        if (tape.fault != 0) {
            return tape.fault - 10;
        }
        plan.start();
        for (int k = 0; k < Work.MOST_TURNS && plan.goesOn(); k++) {
            if (plan.part(0) == Work.REPEAT) {
                plan.turnBack();
            } else if (plan.begin()) {
                perform(plan.part(0));
            }
        }
        return plan.made;
    }

    public int fault() {
        return tape.place;
    }

    public int other(int n, int gap) throws IllegalArgumentException {
        needText(n, 1, MOST_RULE_BYTES);
        needBetween(gap, 1, MOST_GAP);
        tape.take(n);
        draft.clear();
        draft.parse(tape);
        if (tape.fault != 0) {
            return tape.fault - 1_000_000_010;
        }
        prepareRun(world.settings[LEAST], world.settings[SIZE]);
        thought.rule.copyFrom(draft);
        replay(gap);
        long byOther = thought.tally.sums[Tally.LATENCIES];
        prepareRun(world.settings[LEAST], world.settings[SIZE]);
        thought.rule.copyFrom(world.rule);
        replay(gap);
        return (int) (byOther - thought.tally.sums[Tally.LATENCIES]);
    }

    public boolean so(int group, int page, int segment) throws NoSuchElementException {
        needSegment(group, page, segment);
        thought.copyFrom(world);
        thought.serve(group, page, segment, false, 0);
        return thought.isSo(group, page);
    }

    public int set(int what, int v) throws IllegalArgumentException {
        needBetween(what, 0, LOWEST.length - 1);
        needBetween(v, LOWEST[what], HIGHEST[what]);
        int before = world.settings[what];
        world.settings[what] = v;
        if (what == SIZE) {
            world.tags.cut(v);
        }
        if (what == WINDOW) {
            world.balance.startCounting();
            if (v == 0) {
                world.balance.limit = world.groups;
            }
        }
        return before;
    }

    public int read(int group, int page, int segment) throws NoSuchElementException {
        needSegment(group, page, segment);
        return world.access(group, page, segment, false, 0);
    }

    public int write(int group, int page, int segment, int word) throws NoSuchElementException {
        needSegment(group, page, segment);
        return world.access(group, page, segment, true, word);
    }

    public int pin(int group, int page) throws NoSuchElementException {
        needPage(group, page);
        int before = world.pins[group];
        world.pins[group] = page;
        return before;
    }

    public int unpin(int group) throws NoSuchElementException {
        needGroup(group);
        int before = world.pins[group];
        world.pins[group] = NONE;
        return before;
    }

    public int burst(int group, int page, int segment, int many)
            throws NoSuchElementException, IllegalArgumentException, IllegalStateException {
        needSegment(group, page, segment);
        needBetween(many, 1, 50);
        needTick(world.now + many);
        long sum = 0;
        for (int k = 0; k < many; k++) {
            world.access(group, page, segment, false, 0);
            sum += world.tally.latest[0];
            world.advance(world.now + 1);
        }
        return (int) sum;
    }

    public int go(int ticks) throws IllegalArgumentException, IllegalStateException {
        needBetween(ticks, 1, 10_000);
        needTick(world.now + ticks);
        int before = world.orders.ended;
        world.advance(world.now + ticks);
        return world.orders.ended - before;
    }

    public int flush() throws IllegalStateException {
        needTick(tickOfFlush());
        int before = world.now;
        world.bringHome();
        return world.now - before;
    }

    public int told(int what) throws IllegalArgumentException {
        needBetween(what, 0, 20);
        switch (what) {
            case 0: return world.groups;
            case 1: return world.ways;
            case 2: return world.segments;
            case 3: return world.now;
            case 4: return world.orders.count;
            case 5: return world.balance.limit;
            case 6: return world.free[NEAR];
            case 7: return world.free[FAR];
            case 8: return world.swappedInAll();
            case 9: return world.orders.ended;
            case 10: return world.orders.wanting;
            case 17: return world.rule.signs;
            case 18: return tape.held;
            case 19: return world.settings[AGE];
            case 20: return world.pinnedGroups();
            default: return world.settings[what - 11];
        }
    }

    public long count(int what) throws IllegalArgumentException {
        needBetween(what, 0, Tally.GREATEST);
        return world.tally.sums[what];
    }

    public int latest(int what) throws IllegalArgumentException {
        needBetween(what, 0, 2);
        return world.tally.latest[what];
    }

    public int group(int group, int what) throws NoSuchElementException, IllegalArgumentException {
        needGroup(group);
        needBetween(what, 0, 9);
        switch (what) {
            case 0: return world.resident[group];
            case 1: return world.swapped[group];
            case 2: return world.votes.candidate[group];
            case 3: return world.votes.balance[group];
            case 4: return world.votes.asked[group];
            case 5: return world.isOpen(group) ? 1 : 0;
            case 6: return world.tags.find(group);
            case 7: return world.orders.ofGroup[group];
            case 8: return world.pins[group];
            default: return world.votesNow(group);
        }
    }

    public int page(int group, int page) throws NoSuchElementException {
        needPage(group, page);
        return world.votes.askedOf(group, page);
    }

    public int majority(int group) throws NoSuchElementException {
        needGroup(group);
        for (int page = 0; page <= world.ways; page++) {
            if (2 * world.votes.askedOf(group, page) > world.votes.asked[group]) {
                return page;
            }
        }
        return NONE;
    }

    public int where(int group, int page, int segment) throws NoSuchElementException {
        needSegment(group, page, segment);
        return world.placeOf(group, page, segment);
    }

    public int frame(int group, int frame, int segment) throws NoSuchElementException {
        needSegment(group, frame, segment);
        return world.words[World.cell(group, frame, segment)];
    }

    public int word(int group, int page, int segment) throws NoSuchElementException {
        needSegment(group, page, segment);
        return world.seen(group, page, segment);
    }

    public int tag(int k) {
        return k >= 0 && k < world.tags.count ? world.tags.row[k] : NONE;
    }

    public int order(int k, int what) throws NoSuchElementException, IllegalArgumentException {
        needMember(k, world.orders.count);
        needBetween(what, 0, 3);
        switch (what) {
            case 0: return world.orders.group[k];
            case 1: return world.orders.segment[k];
            case 2: return k == 0 ? world.orders.phase : 0;
            default: return k == 0 ? world.orders.end : NONE;
        }
    }

    public int history(int k, int what) throws NoSuchElementException, IllegalArgumentException {
        needMember(k, world.past.count);
        needBetween(what, 0, 3);
        return world.past.part(k, what);
    }

    public int would(int group, int page, int segment, int what)
            throws NoSuchElementException, IllegalArgumentException {
        needSegment(group, page, segment);
        needBetween(what, 0, 2);
        thought.copyFrom(world);
        thought.serve(group, page, segment, false, 0);
        return thought.tally.latest[what];
    }

    public int quiet() {
        thought.copyFrom(world);
        thought.settle();
        return thought.now;
    }

    public int split(int requests, int what) throws IllegalArgumentException {
        needBetween(requests, 1, 1_000);
        needBetween(what, 0, 1);
        int best = 0;
        int soonest = lastEnd(0, requests);
        for (int near = 1; near <= requests; near++) {
            int end = lastEnd(near, requests - near);
            if (end <= soonest) {
                soonest = end;
                best = near;
            }
        }
        return what == 0 ? best : soonest - world.now;
    }

    public int run(int least, int size, int gap, int what) throws IllegalArgumentException {
        needBetween(least, LOWEST[LEAST], HIGHEST[LEAST]);
        needBetween(size, LOWEST[SIZE], HIGHEST[SIZE]);
        needBetween(gap, 1, MOST_GAP);
        needBetween(what, 0, 4);
        prepareRun(least, size);
        replay(gap);
        switch (what) {
            case 0: return (int) thought.tally.sums[Tally.LATENCIES];
            case 1: return (int) thought.tally.sums[Tally.AT_NEAR];
            case 2: return thought.orders.ended;
            case 3: return (int) thought.tally.sums[Tally.MISSES];
            default: return thought.swappedInAll();
        }
    }

    public int tune(int gap, int what) throws IllegalArgumentException {
        needBetween(gap, 1, MOST_GAP);
        needBetween(what, 0, 1);
        int best = 0;
        long shortest = 0;
        for (int least = 1; least <= 20; least++) {
            prepareRun(least, world.settings[SIZE]);
            replay(gap);
            long sum = thought.tally.sums[Tally.LATENCIES];
            if (best == 0 || sum < shortest) {
                shortest = sum;
                best = least;
            }
        }
        return what == 0 ? best : (int) shortest;
    }

    public int enough(int gap) throws IllegalArgumentException {
        needBetween(gap, 1, MOST_GAP);
        int most = HIGHEST[SIZE];
        prepareRun(world.settings[LEAST], most);
        replay(gap);
        long fewest = thought.tally.sums[Tally.MISSES];
        for (int size = 0; size < most; size++) {
            prepareRun(world.settings[LEAST], size);
            replay(gap);
            if (thought.tally.sums[Tally.MISSES] <= fewest) {
                return size;
            }
        }
        return most;
    }

    public int ideal() {
        int sum = 0;
        for (int group = 0; group < world.groups; group++) {
            int best = 0;
            for (int page = 0; page <= world.ways; page++) {
                best = Math.max(best, world.past.countOf(group, page));
            }
            sum += best;
        }
        return sum;
    }

    public int needs(int group, int page) throws NoSuchElementException {
        needPage(group, page);
        int votes = world.votesNow(group);
        int least = world.settings[LEAST];
        if (page != world.votes.candidate[group]) {
            return votes + least;
        }
        return Math.max(0, least - votes);
    }

    public long print() {
        long sum = 0;
        for (int group = 0; group < world.groups; group++) {
            for (int page = 0; page <= world.ways; page++) {
                for (int segment = 0; segment < world.segments; segment++) {
                    sum = 31 * sum + world.seen(group, page, segment);
                }
            }
        }
        return sum;
    }

    public int status(int what) {
        return what >= 0 && what < refused.length ? refused[what] : NONE;
    }

    private void needMember(int k, int count) {
        if (k < 0 || k >= count) {
            refused[MISSING]++;
            throw new NoSuchElementException("no such group, page, segment, order or access");
        }
    }

    private void needGroup(int group) {
        needMember(group, world.groups);
    }

    private void needPage(int group, int page) {
        needMember(group, world.groups);
        needMember(page, world.ways + 1);
    }

    private void needSegment(int group, int page, int segment) {
        needPage(group, page);
        needMember(segment, world.segments);
    }

    private void needBetween(int v, int lowest, int highest) {
        if (v < lowest || v > highest) {
            refused[UNFIT]++;
            throw new IllegalArgumentException("an argument is out of its range");
        }
    }

    private void needText(int n, int fewest, int most) {
        needBetween(n, fewest, Math.min(most, tape.held));
    }

    private void needTick(int tick) {
        if (tick > LAST_TICK) {
            refused[TOO_LATE]++;
            throw new IllegalStateException("the clock would be above 1,000,000");
        }
    }

    private int tickOfFlush() {
        thought.copyFrom(world);
        thought.bringHome();
        return thought.now;
    }

    private int lastEnd(int near, int far) {
        int end = world.now;
        if (near > 0) {
            end = Math.max(world.now, world.free[NEAR]) + near * world.settings[NEAR];
        }
        if (far > 0) {
            end = Math.max(end, Math.max(world.now, world.free[FAR]) + far * world.settings[FAR]);
        }
        return end;
    }

    private void prepareRun(int least, int size) {
        System.arraycopy(world.settings, 0, thought.settings, 0, world.settings.length);
        thought.settings[LEAST] = least;
        thought.settings[SIZE] = size;
        thought.settings[WINDOW] = 0;
        thought.rule.clear();
        thought.restart(world.groups, world.ways, world.segments);
    }

    private void replay(int gap) {
        History past = world.past;
        for (int k = past.count - 1; k >= 0; k--) {
            thought.access(past.part(k, 0), past.part(k, 1), past.part(k, 2), false, 0);
            // Behind the last one the clock stands: what a RUN answers is asked there.
            if (k > 0) {
                thought.advance(thought.now + gap);
            }
        }
    }

    private void perform(int kind) {
        switch (kind) {
            case Work.AGAIN:
                plan.enter();
                return;
            case Work.SWEEP:
                for (int segment = 0; segment < world.segments && !plan.over; segment++) {
                    makeAccess(segment, false);
                }
                break;
            case Work.WAIT:
                pass(plan.part(1));
                break;
            case Work.FLUSH:
                plan.over = tickOfFlush() > LAST_TICK;
                if (!plan.over) {
                    world.bringHome();
                }
                break;
            default:
                makeAccess(plan.part(3), kind == Work.WRITE);
                break;
        }
        plan.at++;
    }

    private void makeAccess(int segment, boolean writes) {
        if (plan.made == Work.MOST_MADE) {
            plan.over = true;
            return;
        }
        plan.made++;
        world.access(plan.part(1), plan.part(2), segment, writes, plan.part(4));
        pass(world.settings[PACE]);
    }

    private void pass(int ticks) {
        if (world.now + ticks > LAST_TICK) {
            plan.over = true;
        } else {
            world.advance(world.now + ticks);
        }
    }

    /** All that shape() begins anew, with the numbers and the RULE that it keeps. */
    private static final class World {
        final int[] settings = {2, 6, 3, 2, 0, 1, 0};
        final Rule rule = new Rule();
        final long[] ruleValues = new long[Rule.NAMES];
        final int[] free = new int[2];
        final int[] words = new int[MOST_GROUPS * MOST_FRAMES * MOST_SEGMENTS];
        final int[] resident = new int[MOST_GROUPS];
        final int[] swapped = new int[MOST_GROUPS];
        final int[] pins = new int[MOST_GROUPS];
        final Orders orders = new Orders();
        final Votes votes = new Votes();
        final Tags tags = new Tags();
        final Balance balance = new Balance();
        final Tally tally = new Tally();
        final History past = new History();
        int groups;
        int ways;
        int segments;
        int now;

        World() {
            restart(4, 3, 4);
        }

        static int cell(int group, int frame, int segment) {
            return (group * MOST_FRAMES + frame) * MOST_SEGMENTS + segment;
        }

        void restart(int newGroups, int newWays, int newSegments) {
            groups = newGroups;
            ways = newWays;
            segments = newSegments;
            now = 0;
            Arrays.fill(free, 0);
            Arrays.fill(words, 0);
            Arrays.fill(resident, NONE);
            Arrays.fill(swapped, 0);
            Arrays.fill(pins, NONE);
            orders.clear();
            votes.clear();
            tags.cut(0);
            balance.startCounting();
            balance.limit = newGroups;
            tally.clear();
            past.clear();
        }

        /** All but the words and the past: where a world is copied, nobody asks for these. */
        void copyFrom(World o) {
            System.arraycopy(o.settings, 0, settings, 0, settings.length);
            rule.copyFrom(o.rule);
            groups = o.groups;
            ways = o.ways;
            segments = o.segments;
            now = o.now;
            System.arraycopy(o.free, 0, free, 0, free.length);
            System.arraycopy(o.resident, 0, resident, 0, resident.length);
            System.arraycopy(o.swapped, 0, swapped, 0, swapped.length);
            System.arraycopy(o.pins, 0, pins, 0, pins.length);
            orders.copyFrom(o.orders);
            votes.copyFrom(o.votes);
            tags.copyFrom(o.tags);
            balance.copyFrom(o.balance);
            tally.copyFrom(o.tally);
        }

        int access(int group, int page, int segment, boolean writes, int word) {
            int before = serve(group, page, segment, writes, word);
            past.add(group, page, segment, writes);
            decide(group, page, segment);
            int shut = balance.weigh(tally.latest[1], settings, groups);
            if (shut != NONE && pins[shut] == NONE) {
                enlist(shut, swapped[shut]);
            }
            return before;
        }

        /** (a) to (c) of an ACCESS: what stood there. */
        int serve(int group, int page, int segment, boolean writes, int word) {
            int kind = PLAIN;
            int from = now;
            if (!isIdle(group)) {
                kind = tags.touch(group, settings[SIZE]) ? HIT : MISS;
            }
            if (kind == MISS) {
                from = use(NEAR, now);
            }
            int place = placeOf(group, page, segment);
            int by = place < 0 ? BUFFER : place == 0 ? NEAR : FAR;
            int end = by == BUFFER ? from + 1 : use(by, from);
            int before = stored(group, place, segment);
            if (writes) {
                store(group, place, segment, word);
            }
            tally.add(kind, by, end - now);
            votes.cast(group, page, now, settings[AGE]);
            return before;
        }

        private void decide(int group, int page, int segment) {
            int pin = pins[group];
            boolean wins = pin == NONE
                    ? isOpen(group) && page == votes.candidate[group] && isSo(group, page)
                    : pin == page;
            if (!wins) {
                return;
            }
            if (page != 0 && resident[group] == NONE) {
                resident[group] = page;
            }
            int bit = 1 << segment;
            if (page != 0 && page != resident[group]) {
                enlist(group, swapped[group]);
            } else if ((page == 0) == ((swapped[group] & bit) != 0)) {
                enlist(group, bit);
            }
            dismissIfIdle(group);
        }

        /** Of the ACCESS that serve() has just made: the RULE is so, or VOTES are LEAST at least. */
        boolean isSo(int group, int page) {
            if (rule.signs == 0) {
                return votes.balance[group] >= settings[LEAST];
            }
            ruleValues[0] = votes.balance[group];
            ruleValues[1] = Integer.bitCount(swapped[group]);
            ruleValues[2] = orders.count;
            ruleValues[3] = Math.max(0, free[NEAR] - now);
            ruleValues[4] = Math.max(0, free[FAR] - now);
            ruleValues[5] = balance.limit;
            ruleValues[6] = page;
            ruleValues[7] = tally.sums[Tally.HITS];
            ruleValues[8] = tally.sums[Tally.MISSES];
            ruleValues[9] = tally.latest[2] == PLAIN ? 1 : 0;
            return rule.holds(ruleValues);
        }

        boolean isOpen(int group) {
            return group < balance.limit;
        }

        int votesNow(int group) {
            return votes.halved(group, now, settings[AGE]);
        }

        private boolean isIdle(int group) {
            return swapped[group] == 0 && orders.ofGroup[group] == 0;
        }

        private void dismissIfIdle(int group) {
            if (isIdle(group)) {
                resident[group] = NONE;
            }
        }

        private int use(int channel, int from) {
            int begin = from >= free[channel] ? from : free[channel];
            free[channel] = begin + settings[channel];
            return free[channel];
        }

        /** Orders the SEGMENTS of these bits, from the least on. */
        private void enlist(int group, int bits) {
            for (int segment = 0; segment < segments; segment++) {
                if ((bits & 1 << segment) == 0 || orders.has(group, segment)) {
                    continue;
                }
                if (orders.isFull()) {
                    orders.wanting++;
                    continue;
                }
                orders.add(group, segment);
                if (orders.count == 1) {
                    orders.phase = 1;
                    orders.end = use(NEAR, now);
                }
            }
        }

        void advance(int to) {
            // No ORDER comes while the clock goes, so that there are no more ENDS than of all PHASES.
            for (int k = 0; k < Orders.MOST_PHASES && orders.count > 0 && orders.end <= to; k++) {
                endPhase();
            }
            now = to;
        }

        /** The clock goes on until no ORDER is left. */
        void settle() {
            for (int k = 0; k < Orders.MOST_PHASES && orders.count > 0; k++) {
                now = orders.end;
                endPhase();
            }
        }

        /** The clock goes on until nothing is SWAPPED, and no ORDER is left. */
        void bringHome() {
            int rounds = MOST_GROUPS * MOST_SEGMENTS;
            for (int k = 0; k < rounds && (orders.count > 0 || swappedInAll() > 0); k++) {
                enlistAll();
                settle();
            }
        }

        private void enlistAll() {
            for (int group = 0; group < groups; group++) {
                for (int segment = 0; segment < segments && !orders.isFull(); segment++) {
                    enlist(group, swapped[group] & 1 << segment);
                }
            }
        }

        private void endPhase() {
            int group = orders.group[0];
            int segment = orders.segment[0];
            int near = cell(group, 0, segment);
            // A GROUP with an ORDER has a RESIDENT; the index is held in its row all the same.
            int far = cell(group, Math.max(0, resident[group]), segment);
            int end = orders.end;
            switch (orders.phase) {
                case 1:
                    orders.bufferA = words[near];
                    break;
                case 2:
                    orders.bufferB = words[far];
                    break;
                case 3:
                    words[near] = orders.bufferB;
                    break;
                default:
                    words[far] = orders.bufferA;
                    swapped[group] ^= 1 << segment;
                    orders.dropFirst();
                    dismissIfIdle(group);
                    break;
            }
            if (orders.count > 0) {
                orders.phase = orders.phase % 4 + 1;
                orders.end = use(orders.phase % 2 == 1 ? NEAR : FAR, end);
            }
        }

        /** The frame in which a SEGMENT of a PAGE stands for an ACCESS, or BUFFER_A, or BUFFER_B. */
        int placeOf(int group, int page, int segment) {
            int guest = resident[group];
            if (guest == NONE || page != 0 && page != guest) {
                return page;
            }
            boolean turned = (swapped[group] & 1 << segment) != 0;
            boolean stoodNear = (page == 0) != turned;
            if (!orders.isInFlight(group, segment)) {
                return stoodNear ? 0 : guest;
            }
            if (stoodNear) {
                return orders.phase == 1 ? 0 : BUFFER_A;
            }
            return orders.phase <= 2 ? guest : orders.phase == 3 ? BUFFER_B : 0;
        }

        int seen(int group, int page, int segment) {
            return stored(group, placeOf(group, page, segment), segment);
        }

        private int stored(int group, int place, int segment) {
            if (place < 0) {
                return place == BUFFER_A ? orders.bufferA : orders.bufferB;
            }
            return words[cell(group, place, segment)];
        }

        private void store(int group, int place, int segment, int word) {
            if (place == BUFFER_A) {
                orders.bufferA = word;
            } else if (place == BUFFER_B) {
                orders.bufferB = word;
            } else {
                words[cell(group, place, segment)] = word;
            }
        }

        int swappedInAll() {
            int sum = 0;
            for (int group = 0; group < groups; group++) {
                sum += Integer.bitCount(swapped[group]);
            }
            return sum;
        }

        int pinnedGroups() {
            int bits = 0;
            for (int group = 0; group < groups; group++) {
                if (pins[group] != NONE) {
                    bits |= 1 << group;
                }
            }
            return bits;
        }
    }

    /** The row of ORDERS, the first one in flight, with the BUFFERS that it fills. */
    private static final class Orders {
        static final int MOST = 16;
        static final int MOST_PHASES = 4 * MOST;

        final int[] group = new int[MOST];
        final int[] segment = new int[MOST];
        final int[] ofGroup = new int[MOST_GROUPS];
        int count;
        int phase;
        int end;
        int bufferA;
        int bufferB;
        int ended;
        int wanting;

        void clear() {
            Arrays.fill(ofGroup, 0);
            count = 0;
            phase = 0;
            end = 0;
            bufferA = 0;
            bufferB = 0;
            ended = 0;
            wanting = 0;
        }

        void copyFrom(Orders o) {
            System.arraycopy(o.group, 0, group, 0, MOST);
            System.arraycopy(o.segment, 0, segment, 0, MOST);
            System.arraycopy(o.ofGroup, 0, ofGroup, 0, MOST_GROUPS);
            count = o.count;
            phase = o.phase;
            end = o.end;
            bufferA = o.bufferA;
            bufferB = o.bufferB;
            ended = o.ended;
            wanting = o.wanting;
        }

        boolean isFull() {
            return count >= MOST;
        }

        void add(int g, int s) {
            if (count < MOST) {
                group[count] = g;
                segment[count] = s;
                ofGroup[g]++;
                count++;
            }
        }

        void dropFirst() {
            ofGroup[group[0]]--;
            for (int k = 1; k < count; k++) {
                group[k - 1] = group[k];
                segment[k - 1] = segment[k];
            }
            count--;
            ended++;
        }

        boolean has(int g, int s) {
            for (int k = 0; k < count; k++) {
                if (group[k] == g && segment[k] == s) {
                    return true;
                }
            }
            return false;
        }

        boolean isInFlight(int g, int s) {
            return count > 0 && group[0] == g && segment[0] == s;
        }
    }

    /** CANDIDATES and VOTES of the GROUPS, and how often GROUPS and PAGES were asked. */
    private static final class Votes {
        final int[] candidate = new int[MOST_GROUPS];
        final int[] balance = new int[MOST_GROUPS];
        final int[] castAt = new int[MOST_GROUPS];
        final int[] asked = new int[MOST_GROUPS];
        final int[] askedPages = new int[MOST_GROUPS * MOST_FRAMES];

        void clear() {
            Arrays.fill(candidate, 0);
            Arrays.fill(balance, 0);
            Arrays.fill(castAt, 0);
            Arrays.fill(asked, 0);
            Arrays.fill(askedPages, 0);
        }

        void copyFrom(Votes o) {
            System.arraycopy(o.candidate, 0, candidate, 0, MOST_GROUPS);
            System.arraycopy(o.balance, 0, balance, 0, MOST_GROUPS);
            System.arraycopy(o.castAt, 0, castAt, 0, MOST_GROUPS);
            System.arraycopy(o.asked, 0, asked, 0, MOST_GROUPS);
            System.arraycopy(o.askedPages, 0, askedPages, 0, askedPages.length);
        }

        int askedOf(int group, int page) {
            return askedPages[group * MOST_FRAMES + page];
        }

        int halved(int group, int now, int age) {
            if (age < 1) {
                return balance[group];
            }
            int times = (now - castAt[group]) / age;
            // A shift by more than 31 would begin anew from 0.
            return times > 31 ? 0 : balance[group] >> times;
        }

        void cast(int group, int page, int now, int age) {
            int votes = halved(group, now, age);
            if (page == candidate[group]) {
                votes++;
            } else if (votes == 0) {
                candidate[group] = page;
                votes = 1;
            } else {
                votes--;
            }
            balance[group] = votes;
            castAt[group] = now;
            asked[group]++;
            askedPages[group * MOST_FRAMES + page]++;
        }
    }

    /** The row of GROUPS whose entries of the table are cached, the latest one first. */
    private static final class Tags {
        // One place more than there are GROUPS, for the one that leaves.
        final int[] row = new int[MOST_GROUPS + 1];
        int count;

        void copyFrom(Tags o) {
            System.arraycopy(o.row, 0, row, 0, row.length);
            count = o.count;
        }

        void cut(int size) {
            count = Math.min(count, size);
        }

        int find(int group) {
            for (int k = 0; k < count; k++) {
                if (row[k] == group) {
                    return k;
                }
            }
            return NONE;
        }

        /** Puts a GROUP first: whether it was there. */
        boolean touch(int group, int size) {
            int place = find(group);
            int last = place == NONE ? Math.min(count, MOST_GROUPS) : place;
            for (int k = last; k > 0; k--) {
                row[k] = row[k - 1];
            }
            row[0] = group;
            if (place == NONE) {
                count = Math.min(count + 1, size);
            }
            return place != NONE;
        }
    }

    /** LIMIT, and what was counted for it in this WINDOW. */
    private static final class Balance {
        int limit;
        int made;
        int near;
        int far;

        void startCounting() {
            made = 0;
            near = 0;
            far = 0;
        }

        void copyFrom(Balance o) {
            limit = o.limit;
            made = o.made;
            near = o.near;
            far = o.far;
        }

        /** Counts an ACCESS: the GROUP that is shut by it, or NONE. */
        int weigh(int by, int[] settings, int groups) {
            if (settings[WINDOW] == 0) {
                return NONE;
            }
            made++;
            near += by == NEAR ? 1 : 0;
            far += by == FAR ? 1 : 0;
            if (made < settings[WINDOW]) {
                return NONE;
            }
            int surplus = near * settings[NEAR] - far * settings[FAR];
            startCounting();
            if (surplus > 0 && limit > 0) {
                limit--;
                return limit;
            }
            if (surplus < 0 && limit < groups) {
                limit++;
            }
            return NONE;
        }
    }

    /** What count() and latest() tell, in their order. */
    private static final class Tally {
        static final int AT_NEAR = 1;
        static final int KINDS = 4;
        static final int HITS = 5;
        static final int MISSES = 6;
        static final int LATENCIES = 7;
        static final int GREATEST = 8;

        final long[] sums = new long[GREATEST + 1];
        final int[] latest = new int[3];

        void clear() {
            Arrays.fill(sums, 0);
            Arrays.fill(latest, NONE);
        }

        void copyFrom(Tally o) {
            System.arraycopy(o.sums, 0, sums, 0, sums.length);
            System.arraycopy(o.latest, 0, latest, 0, latest.length);
        }

        void add(int kind, int by, int latency) {
            sums[0]++;
            sums[AT_NEAR + by]++;
            sums[KINDS + kind]++;
            sums[LATENCIES] += latency;
            sums[GREATEST] = Math.max(sums[GREATEST], latency);
            latest[0] = latency;
            latest[1] = by;
            latest[2] = kind;
        }
    }

    /** The latest 64 ACCESSES, in a ring. */
    private static final class History {
        static final int MOST = 64;
        static final int PARTS = 4;

        final int[] ring = new int[MOST * PARTS];
        int next;
        int count;

        void clear() {
            next = 0;
            count = 0;
        }

        void add(int group, int page, int segment, boolean writes) {
            int at = next * PARTS;
            ring[at] = group;
            ring[at + 1] = page;
            ring[at + 2] = segment;
            ring[at + 3] = writes ? 1 : 0;
            next = (next + 1) % MOST;
            count = Math.min(count + 1, MOST);
        }

        /** Of the k-th ACCESS, 0 the latest. */
        int part(int k, int what) {
            return ring[Math.floorMod(next - 1 - k, MOST) * PARTS + what];
        }

        int countOf(int group, int page) {
            int sum = 0;
            for (int k = 0; k < count; k++) {
                if (part(k, 0) == group && part(k, 1) == page) {
                    sum++;
                }
            }
            return sum;
        }
    }

    /** The TAPE, and a text taken from it, cut into numbers, words and signs; its first FAULT. */
    private static final class Text {
        static final int FED = 20;
        static final int MISPLACED = 1;
        static final int NO_SUCH_NUMBER = 2;
        static final int TOO_MANY = 3;

        // A token is a sign by its byte, one of WORDS by its place in them behind all bytes, or one of these.
        static final int END = -1;
        static final int NUMBER = -2;
        static final int STRANGE_WORD = -3;
        static final int FIRST_WORD = 256;
        static final int OR = FIRST_WORD + 10;
        static final int AND = FIRST_WORD + 11;
        static final int NOT = FIRST_WORD + 12;
        static final int FIRST_STEP = FIRST_WORD + 13;
        static final int LAST_STEP = FIRST_WORD + 18;
        private static final String WORDS =
                "votes swapped orders near far limit page hits misses plain or and not read write sweep wait flush again ";
        private static final int MOST = 300;
        private static final int SIGN = 0;
        private static final int DIGIT = 1;
        private static final int LETTER = 2;

        final int[] tokens = new int[MOST_WORK_BYTES + 1];
        final int[] starts = new int[MOST_WORK_BYTES + 1];
        final int[] values = new int[MOST_WORK_BYTES + 1];
        final byte[] bytes = new byte[MOST];
        int held;
        int fault;
        int place = NONE;
        private int at;

        void clear() {
            held = 0;
            fault = 0;
            place = NONE;
        }

        boolean hasRoom() {
            return held + FED <= MOST;
        }

        void append(int four) {
            for (int shift = 24; shift >= 0 && held < MOST; shift -= 8) {
                bytes[held] = (byte) (four >> shift);
                held++;
            }
        }

        /** The first n bytes are the text now, at its first token; the TAPE is empty. */
        void take(int n) {
            clear();
            at = 0;
            int length = Math.min(n, MOST_WORK_BYTES);
            int count = 0;
            int end = 0;
            for (int k = 0; k < length; k++) {
                if (k >= end && bytes[k] != ' ') {
                    end = endOfToken(k, length);
                    starts[count] = k;
                    tokens[count] = tokenOf(k, end);
                    values[count] = tokens[count] == NUMBER ? numberOf(k, end) : 0;
                    count++;
                }
            }
            starts[count] = length;
            tokens[count] = END;
        }

        private int endOfToken(int from, int length) {
            int kind = kindOf(bytes[from]);
            int end = from + 1;
            while (kind != SIGN && end < length && kindOf(bytes[end]) == kind) {
                end++;
            }
            return end;
        }

        private static int kindOf(byte b) {
            if (b >= '0' && b <= '9') {
                return DIGIT;
            }
            return b >= 'a' && b <= 'z' ? LETTER : SIGN;
        }

        private int tokenOf(int from, int end) {
            int kind = kindOf(bytes[from]);
            if (kind == SIGN) {
                return bytes[from] & 255;
            }
            return kind == DIGIT ? NUMBER : wordOf(from, end);
        }

        private int wordOf(int from, int end) {
            int word = FIRST_WORD;
            int next = from;
            boolean alike = true;
            for (int k = 0; k < WORDS.length(); k++) {
                char c = WORDS.charAt(k);
                if (c != ' ') {
                    alike = alike && next < end && bytes[next] == c;
                    next++;
                } else if (alike && next == end) {
                    return word;
                } else {
                    word++;
                    next = from;
                    alike = true;
                }
            }
            return STRANGE_WORD;
        }

        private int numberOf(int from, int end) {
            int v = 0;
            for (int k = from; k < end && v <= 99_999_999; k++) {
                // Above all that is allowed anywhere, it need not grow any more (and can't wrap around).
                v = 10 * v + bytes[k] - '0';
            }
            return v;
        }

        int token() {
            return tokens[at];
        }

        void advance() {
            if (tokens[at] != END) {
                at++;
            }
        }

        void fail(int why) {
            if (fault == 0) {
                fault = why;
                place = starts[at];
            }
        }

        void takeSign(char c) {
            if (tokens[at] == c) {
                advance();
            } else {
                fail(MISPLACED);
            }
        }

        int takeNumber(int lowest, int highest) {
            int v = values[at];
            if (tokens[at] != NUMBER) {
                fail(MISPLACED);
            } else if (v < lowest || v > highest) {
                fail(NO_SUCH_NUMBER);
            } else {
                advance();
                return v;
            }
            return 0;
        }
    }

    /** A RULE, each operation behind what it works on; without any S there is none. */
    private static final class Rule {
        static final int NAMES = 10;
        private static final int MOST_SIGNS = 20;
        private static final int MOST_OPEN = 6;
        // An operation is the sign or word that it is told by, or one of these.
        private static final int VALUE = 0;
        private static final int NAME = 1;

        // No operation without a byte of the text of its own.
        final int[] operations = new int[MOST_RULE_BYTES];
        final int[] operands = new int[MOST_RULE_BYTES];
        final long[] stack = new long[MOST_RULE_BYTES + 1];
        int count;
        int signs;

        void clear() {
            count = 0;
            signs = 0;
        }

        void copyFrom(Rule o) {
            System.arraycopy(o.operations, 0, operations, 0, operations.length);
            System.arraycopy(o.operands, 0, operands, 0, operands.length);
            count = o.count;
            signs = o.signs;
        }

        /** Reads all of a text; FAULTS are kept by the text. */
        void parse(Text text) {
            parseEither(text, 0);
            if (text.token() != Text.END) {
                text.fail(Text.MISPLACED);
            }
        }

        /** Reads E. As "and" ties first, an "or" is done when the next one comes, or nothing more. */
        private void parseEither(Text text, int open) {
            boolean waits = false;
            parseNot(text, open);
            int tie = text.token();
            for (int k = 0; k < MOST_RULE_BYTES && text.fault == 0 && (tie == Text.OR || tie == Text.AND); k++) {
                if (tie == Text.OR && waits) {
                    add(Text.OR, 0);
                }
                text.advance();
                parseNot(text, open);
                if (tie == Text.AND) {
                    add(Text.AND, 0);
                } else {
                    waits = true;
                }
                tie = text.token();
            }
            if (waits) {
                add(Text.OR, 0);
            }
        }

        private void parseNot(Text text, int open) {
            boolean not = text.token() == Text.NOT;
            if (not) {
                text.advance();
            }
            if (text.token() != '(') {
                parseComparison(text);
            } else if (open == MOST_OPEN) {
                text.fail(Text.TOO_MANY);
            } else {
                text.advance();
                parseEither(text, open + 1);
                text.takeSign(')');
            }
            if (not) {
                add(Text.NOT, 0);
            }
        }

        private void parseComparison(Text text) {
            parseSum(text);
            int sign = text.token();
            if (sign != '<' && sign != '=' && sign != '>') {
                text.fail(Text.MISPLACED);
            } else if (signs == MOST_SIGNS) {
                text.fail(Text.TOO_MANY);
            }
            if (text.fault == 0) {
                signs++;
                text.advance();
                parseSum(text);
                add(sign, 0);
            }
        }

        private void parseSum(Text text) {
            int sign = 0;
            for (int k = 0; k < MOST_RULE_BYTES; k++) {
                int name = text.token() - Text.FIRST_WORD;
                if (name >= 0 && name < NAMES) {
                    add(NAME, name);
                    text.advance();
                } else {
                    add(VALUE, text.takeNumber(0, 9_999));
                }
                if (k > 0) {
                    add(sign, 0);
                }
                sign = text.token();
                if (text.fault != 0 || sign != '+' && sign != '-') {
                    return;
                }
                text.advance();
            }
        }

        private void add(int operation, int operand) {
            if (count < operations.length) {
                operations[count] = operation;
                operands[count] = operand;
                count++;
            }
        }

        boolean holds(long[] values) {
            int top = 0;
            for (int k = 0; k < count; k++) {
                int operation = operations[k];
                if (operation == VALUE || operation == NAME) {
                    stack[top] = operation == VALUE ? operands[k] : values[operands[k]];
                    top++;
                } else if (operation == Text.NOT && top > 0) {
                    stack[top - 1] = 1 - stack[top - 1];
                } else if (top > 1) {
                    top--;
                    stack[top - 1] = joined(operation, stack[top - 1], stack[top]);
                }
            }
            return stack[0] != 0;
        }

        private static long joined(int operation, long a, long b) {
            switch (operation) {
                case '+': return a + b;
                case '-': return a - b;
                case '<': return a < b ? 1 : 0;
                case '=': return a == b ? 1 : 0;
                case '>': return a > b ? 1 : 0;
                case Text.AND: return a & b;
                default: return a | b;
            }
        }
    }

    /** A WORK: its STEPS, and how far it has been done. */
    private static final class Work {
        static final int MOST_MADE = 400;
        // Even with nothing in them, 2,000 times "again 40" come to their end less often.
        static final int MOST_TURNS = 100_000;
        // In the order of their words.
        static final int READ = 0;
        static final int WRITE = 1;
        static final int SWEEP = 2;
        static final int WAIT = 3;
        static final int FLUSH = 4;
        static final int AGAIN = 5;
        // Where an AGAIN ends: no STEP, but a place in the row of them.
        static final int REPEAT = 6;
        private static final int MOST_BEGUN = 2_000;
        private static final int MOST_OPEN = 5;
        private static final int PARTS = 5;
        private static final int MOST_STEPS = 100;

        // Of each STEP: what it is, then GROUP, PAGE, SEGMENT, WORD; or TICKS; or how often, and where it ends.
        final int[] steps = new int[MOST_STEPS * PARTS];
        final int[] firsts = new int[MOST_OPEN];
        final int[] left = new int[MOST_OPEN];
        int count;
        int open;
        int at;
        int begun;
        int made;
        boolean over;

        /** Reads a text; FAULTS are kept by the text. */
        void parse(Text text, World world) {
            count = 0;
            open = 0;
            for (int k = 0; k < MOST_WORK_BYTES && text.fault == 0 && text.token() != Text.END; k++) {
                int token = text.token();
                if (token == ']' && open > 0) {
                    text.advance();
                    close();
                    text.takeSign(';');
                } else if (token == Text.LAST_STEP) {
                    parseAgain(text);
                } else if (token >= Text.FIRST_STEP && token < Text.LAST_STEP) {
                    parseStep(token - Text.FIRST_STEP, text, world);
                    text.takeSign(';');
                } else {
                    text.fail(Text.MISPLACED);
                }
            }
            if (open > 0) {
                text.fail(Text.MISPLACED);
            }
        }

        private void parseAgain(Text text) {
            if (open == MOST_OPEN) {
                text.fail(Text.TOO_MANY);
                return;
            }
            text.advance();
            firsts[open] = count;
            open++;
            add(AGAIN);
            put(1, text.takeNumber(0, 40));
            text.takeSign('[');
        }

        private void close() {
            open--;
            // The AGAIN is told where it ends, so that it can be left out, if it is to be done 0 times.
            steps[firsts[open] * PARTS + 2] = count;
            add(REPEAT);
        }

        private void parseStep(int kind, Text text, World world) {
            text.advance();
            add(kind);
            if (kind == WAIT) {
                put(1, text.takeNumber(1, 999));
            } else if (kind != FLUSH) {
                put(1, text.takeNumber(0, world.groups - 1));
                put(2, text.takeNumber(0, world.ways));
            }
            if (kind == READ || kind == WRITE) {
                put(3, text.takeNumber(0, world.segments - 1));
            }
            if (kind == WRITE) {
                put(4, text.takeNumber(0, 99_999_999));
            }
        }

        private void add(int kind) {
            if (count < MOST_STEPS) {
                steps[count * PARTS] = kind;
                count++;
            }
        }

        private void put(int part, int v) {
            if (count > 0) {
                steps[(count - 1) * PARTS + part] = v;
            }
        }

        void start() {
            at = 0;
            open = 0;
            begun = 0;
            made = 0;
            over = false;
        }

        boolean goesOn() {
            return !over && at < count;
        }

        /** Whether the STEP that is come to may begin. */
        boolean begin() {
            over = begun == MOST_BEGUN;
            begun++;
            return !over;
        }

        int part(int k) {
            return at < count ? steps[at * PARTS + k] : 0;
        }

        void enter() {
            int times = part(1);
            if (times == 0 || open == MOST_OPEN) {
                at = part(2) + 1;
                return;
            }
            at++;
            firsts[open] = at;
            left[open] = times;
            open++;
        }

        void turnBack() {
            int last = Math.max(0, open - 1);
            left[last]--;
            if (left[last] > 0) {
                at = firsts[last];
            } else {
                open = last;
                at++;
            }
        }
    }
}
