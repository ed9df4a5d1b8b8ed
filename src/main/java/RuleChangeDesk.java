import java.util.Arrays;

/** Changes a net of switches from old rules to new ones, switch by switch; see README.md. */
public final class RuleChangeDesk {
    public static final int NONE = -1;

    private static final int SWITCHES = 7;
    private static final int PORTS = 4;
    private static final int HOSTS = 6;
    private static final int MARKS = 16;
    private static final int BOOKS = 2;
    private static final int RULES = 6;
    private static final int RANKS = 10;
    private static final int WANTS = 10;
    private static final int PACKETS = 40;
    private static final int MIXTURES = 128;

    private static final int OLD = 0;
    private static final int NEW = 1;

    private static final int DROP = 4;

    private static final int COMES = 0;
    private static final int NO_RING = 1;
    private static final int NEVER = 2;
    private static final int PAST = 3;
    private static final int WHOLE = 4;

    private static final int DROPPED = 10;
    private static final int LOST = 11;
    private static final int RING = 12;

    // Where a packet goes: a switch's number, or ENDS and its end.
    private static final int ENDS = 100;
    // From here on the answers of packet() are about the switches that it came to.
    private static final int STOPS = 100;

    private final Net switches = new Net();
    private final Judge judge = new Judge(switches);
    private final Plan rounds = new Plan();
    private final Planner planner = new Planner(switches, judge);
    private final Run current = new Run(switches, judge, rounds);
    private final Way latest = new Way();

    public RuleChangeDesk() {
    }

    public boolean net(int n) {
        if (n < 1 || n > SWITCHES) {
            return false;
        }
        switches.reset(n);
        judge.dropWants();
        startAfresh();
        return true;
    }

    public boolean link(int s, int p, int t, int q) {
        if (s == t || !switches.isFree(s, p) || !switches.isFree(t, q)) {
            return false;
        }
        switches.join(s, p, t, q);
        startAfresh();
        return true;
    }

    public int host(int s, int p) {
        if (!switches.isFree(s, p) || switches.hostCount() >= HOSTS) {
            return NONE;
        }
        int number = switches.addHost(s, p);
        startAfresh();
        return number;
    }

    public boolean unplug(int s, int p) {
        if (!switches.hasPort(s, p) || switches.isFree(s, p)) {
            return false;
        }
        int h = switches.hostAt(s, p);
        if (h != NONE && (h != switches.hostCount() - 1 || judge.needsHost(h))) {
            return false;
        }
        switches.clear(s, p);
        startAfresh();
        return true;
    }

    public int rule(int book, int s, int value, int bits, int rank, int act) {
        Row row = switches.rowOf(book, s);
        if (row == null || row.size() >= RULES || !isSpan(value, bits)
                || rank < 0 || rank >= RANKS || act < 0 || act > DROP) {
            return NONE;
        }
        row.add(value, bits, rank, act);
        startAfresh();
        return row.size();
    }

    public int strike(int book, int s, int i) {
        Row row = switches.rowOf(book, s);
        if (row == null || i < 0 || i >= row.size()) {
            return NONE;
        }
        row.remove(i);
        startAfresh();
        return row.size();
    }

    public int copy(int s, boolean back) {
        Row oldRow = switches.rowOf(OLD, s);
        Row newRow = switches.rowOf(NEW, s);
        if (oldRow == null || newRow == null) {
            return NONE;
        }
        if (back) {
            newRow.becomeLike(oldRow);
        } else {
            oldRow.becomeLike(newRow);
        }
        startAfresh();
        return oldRow.size();
    }

    public int want(int kind, int value, int bits, int a, int b, int s) {
        if (kind < COMES || kind > WHOLE || !isSpan(value, bits) || !switches.hasHost(a)
                || judge.wantCount() >= WANTS) {
            return NONE;
        }
        if (hasTarget(kind) && !switches.hasHost(b)) {
            return NONE;
        }
        if (kind == PAST && !switches.hasSwitch(s)) {
            return NONE;
        }
        judge.addWant(new Want(kind, value, bits, a, b, s));
        startAfresh();
        return judge.wantCount() - 1;
    }

    public int unwant(int i) {
        if (i < 0 || i >= judge.wantCount()) {
            return NONE;
        }
        judge.removeWant(i);
        startAfresh();
        return judge.wantCount();
    }

    public int look(int what) {
        switch (what) {
            case 0:
                return switches.switchCount();
            case 1:
                return switches.hostCount();
            case 2:
                return switches.linkCount();
            case 3:
                return switches.ruleCount();
            case 4:
                return judge.wantCount();
            case 5:
                return switches.unlike();
            case 6:
                return switches.classCount();
            case 7:
                return planner.countGood();
            case 8:
                return rounds.size();
            case 9:
                return rounds.members() == switches.unlike() ? 1 : 0;
            default:
                return NONE;
        }
    }

    public int ofClass(int mark) {
        return switches.classOf(mark);
    }

    public int way(int mixture, int host, int mark) {
        if (!switches.hasMixture(mixture) || !switches.hasHost(host) || !isMark(mark)) {
            return NONE;
        }
        switches.trace(latest, mixture, host, mark);
        return latest.length();
    }

    public int on(int i) {
        return i == NONE ? latest.end() : latest.stop(i);
    }

    public int holds(int want, int mixture) {
        if (!judge.hasWant(want) || !switches.hasMixture(mixture)) {
            return NONE;
        }
        return judge.leastBadMark(want, mixture) == NONE ? 1 : 0;
    }

    public int kept(int want) {
        if (!judge.hasWant(want)) {
            return NONE;
        }
        return judge.isKept(want) ? 1 : 0;
    }

    public int why(int mixture, int what) {
        if (!switches.hasMixture(mixture) || (what != 0 && what != 1)) {
            return NONE;
        }
        int broken = judge.firstBroken(mixture);
        if (broken == NONE || what == 0) {
            return broken;
        }
        return judge.leastBadMark(broken, mixture);
    }

    public int least() {
        if (!planner.makeLeast(rounds)) {
            return NONE;
        }
        current.stop();
        return rounds.size();
    }

    public int orders() {
        return planner.countOrders();
    }

    public boolean order(int k) {
        if (!planner.makeOrder(rounds, k)) {
            return false;
        }
        current.stop();
        return true;
    }

    public int round(int set) {
        int free = switches.unlike() & ~rounds.members();
        if (set == 0 || (set & ~free) != 0) {
            return NONE;
        }
        rounds.add(set);
        current.stop();
        return rounds.size();
    }

    public void empty() {
        rounds.clear();
        current.stop();
    }

    public int plan(int i) {
        return rounds.has(i) ? rounds.get(i) : NONE;
    }

    public int mid(int i) {
        if (!rounds.has(i)) {
            return NONE;
        }
        return planner.whyNotTaken(rounds.membersAhead(i), rounds.get(i));
    }

    public boolean begin() {
        if (rounds.size() == 0) {
            return false;
        }
        current.start();
        return true;
    }

    public int send(int host, int mark) {
        if (!current.isLive() || !switches.hasHost(host) || !isMark(mark)
                || current.packetCount() >= PACKETS) {
            return NONE;
        }
        return current.putIn(host, mark);
    }

    public int hop(int k) {
        Packet traveller = current.packetOf(k);
        if (traveller == null || !traveller.isUnderWay()) {
            return NONE;
        }
        current.moveOn(traveller);
        return traveller.isUnderWay() ? traveller.place() : ENDS + traveller.end();
    }

    public int change(int s) {
        return current.takeNew(s);
    }

    public int next() {
        return current.nextRound();
    }

    public int run(int what) {
        return current.tell(what);
    }

    public int packet(int k, int what) {
        Packet traveller = current.packetOf(k);
        return traveller == null ? NONE : traveller.tell(what);
    }

    /** A plan and a run hold only for the net, rules and wants that they were made for. */
    private void startAfresh() {
        switches.forget();
        judge.forget();
        rounds.clear();
        current.stop();
    }

    private static boolean isMark(int mark) {
        return mark >= 0 && mark < MARKS;
    }

    private static boolean isSpan(int value, int bits) {
        return isMark(value) && isMark(bits);
    }

    private static boolean spanHas(int value, int bits, int mark) {
        return ((mark ^ value) & bits) == 0;
    }

    /** Whether wants of a kind are about a host b. */
    private static boolean hasTarget(int kind) {
        return kind == COMES || kind == NEVER || kind == PAST;
    }

    private static boolean isWithin(int set, int whole) {
        return (set & ~whole) == 0;
    }

    /** The rules of one switch in one book. */
    private static final class Row {
        private final int[] values = new int[RULES];
        private final int[] masks = new int[RULES];
        private final int[] ranks = new int[RULES];
        private final int[] acts = new int[RULES];
        // Ways are traced far more often than rules change, so each mark's act is kept ready.
        private final int[] actOfMark = new int[MARKS];
        private int size;

        Row() {
            Arrays.fill(actOfMark, DROP);
        }

        int size() {
            return size;
        }

        void clear() {
            size = 0;
            findActs();
        }

        void add(int value, int bits, int rank, int act) {
            if (size >= RULES) {
                return;
            }
            put(size, value, bits, rank, act);
            size++;
            findActs();
        }

        void remove(int i) {
            if (i < 0 || i >= size) {
                return;
            }
            for (int j = i; j + 1 < size; j++) {
                put(j, values[j + 1], masks[j + 1], ranks[j + 1], acts[j + 1]);
            }
            size--;
            findActs();
        }

        void becomeLike(Row other) {
            for (int i = 0; i < other.size; i++) {
                put(i, other.values[i], other.masks[i], other.ranks[i], other.acts[i]);
            }
            size = other.size;
            findActs();
        }

        boolean isLike(Row other) {
            if (size != other.size) {
                return false;
            }
            for (int i = 0; i < size; i++) {
                if (values[i] != other.values[i] || masks[i] != other.masks[i]
                        || ranks[i] != other.ranks[i] || acts[i] != other.acts[i]) {
                    return false;
                }
            }
            return true;
        }

        /** Whether a rule has one of the two marks and not the other. */
        boolean separates(int mark, int other) {
            for (int i = 0; i < size; i++) {
                if (spanHas(values[i], masks[i], mark) != spanHas(values[i], masks[i], other)) {
                    return true;
                }
            }
            return false;
        }

        private void put(int i, int value, int bits, int rank, int act) {
            values[i] = value;
            masks[i] = bits;
            ranks[i] = rank;
            acts[i] = act;
        }

        private void findActs() {
            for (int mark = 0; mark < MARKS; mark++) {
                int highest = NONE;
                int act = DROP;
                for (int i = 0; i < size; i++) {
                    if (ranks[i] > highest && spanHas(values[i], masks[i], mark)) {
                        highest = ranks[i];
                        act = acts[i];
                    }
                }
                actOfMark[mark] = act;
            }
        }
    }

    /** The switches that a packet came to, and its end, or NONE while it is under way. */
    private static final class Way {
        private final int[] stops = new int[SWITCHES];
        private int length;
        private int passed;
        private int end = NONE;

        void startAt(int s) {
            stops[0] = s;
            length = 1;
            passed = 1 << s;
            end = NONE;
        }

        void goOn(int where) {
            if (where >= ENDS) {
                end = where - ENDS;
            } else if ((passed >> where & 1) != 0 || length >= SWITCHES) {
                end = RING;
            } else {
                stops[length] = where;
                length++;
                passed |= 1 << where;
            }
        }

        int length() {
            return length;
        }

        int end() {
            return end;
        }

        int stop(int i) {
            return i >= 0 && i < length ? stops[i] : NONE;
        }

        int last() {
            return length > 0 ? stops[length - 1] : NONE;
        }

        boolean passes(int s) {
            return (passed >> s & 1) != 0;
        }

        boolean isLike(Way other) {
            if (length != other.length || end != other.end) {
                return false;
            }
            for (int i = 0; i < length; i++) {
                if (stops[i] != other.stops[i]) {
                    return false;
                }
            }
            return true;
        }
    }

    /** The switches with what is at their ports, and their rules in both books. */
    private static final class Net {
        private static final int NOTHING = -1;
        // What is at a port: the place that a link leads to, or HOST_AT and a host's number.
        private static final int HOST_AT = 100;

        private final int[] ports = new int[SWITCHES * PORTS];
        private final int[] hostSwitches = new int[HOSTS];
        private final Row[] rows = new Row[BOOKS * SWITCHES];
        private final int[] classes = new int[MARKS];
        private boolean classesAreKnown;
        private int classCount;
        private int switchCount = 1;
        private int hostCount;
        private int linkCount;

        Net() {
            Arrays.fill(ports, NOTHING);
            for (int i = 0; i < BOOKS * SWITCHES; i++) {
                rows[i] = new Row();
            }
        }

        void reset(int n) {
            switchCount = n;
            hostCount = 0;
            linkCount = 0;
            Arrays.fill(ports, NOTHING);
            for (int i = 0; i < BOOKS * SWITCHES; i++) {
                rows[i].clear();
            }
        }

        /** The classes are no longer so once a rule changes. */
        void forget() {
            classesAreKnown = false;
        }

        int switchCount() {
            return switchCount;
        }

        int hostCount() {
            return hostCount;
        }

        int linkCount() {
            return linkCount;
        }

        boolean hasSwitch(int s) {
            return s >= 0 && s < switchCount;
        }

        boolean hasPort(int s, int p) {
            return hasSwitch(s) && p >= 0 && p < PORTS;
        }

        boolean hasHost(int h) {
            return h >= 0 && h < hostCount;
        }

        boolean hasMixture(int mixture) {
            return mixture >= 0 && mixture <= allNew();
        }

        int allNew() {
            return (1 << switchCount) - 1;
        }

        boolean isFree(int s, int p) {
            return hasPort(s, p) && ports[s * PORTS + p] == NOTHING;
        }

        void join(int s, int p, int t, int q) {
            if (!hasPort(s, p) || !hasPort(t, q)) {
                return;
            }
            ports[s * PORTS + p] = t * PORTS + q;
            ports[t * PORTS + q] = s * PORTS + p;
            linkCount++;
        }

        int addHost(int s, int p) {
            if (!hasPort(s, p) || hostCount >= HOSTS) {
                return NONE;
            }
            ports[s * PORTS + p] = HOST_AT + hostCount;
            hostSwitches[hostCount] = s;
            hostCount++;
            return hostCount - 1;
        }

        int switchOf(int host) {
            return host >= 0 && host < hostCount ? hostSwitches[host] : 0;
        }

        int hostAt(int s, int p) {
            if (!hasPort(s, p) || ports[s * PORTS + p] < HOST_AT) {
                return NONE;
            }
            return ports[s * PORTS + p] - HOST_AT;
        }

        /** Takes away a link, or the host that came last. */
        void clear(int s, int p) {
            if (!hasPort(s, p)) {
                return;
            }
            int there = ports[s * PORTS + p];
            if (there >= HOST_AT) {
                hostCount--;
            } else if (there >= 0 && there < SWITCHES * PORTS) {
                ports[there] = NOTHING;
                linkCount--;
            }
            ports[s * PORTS + p] = NOTHING;
        }

        Row rowOf(int book, int s) {
            if ((book != OLD && book != NEW) || !hasSwitch(s)) {
                return null;
            }
            return rows[book * SWITCHES + s];
        }

        int ruleCount() {
            int count = 0;
            for (int i = 0; i < BOOKS * SWITCHES; i++) {
                count += rows[i].size();
            }
            return count;
        }

        int unlike() {
            int set = 0;
            for (int s = 0; s < switchCount; s++) {
                if (!rows[s].isLike(rows[SWITCHES + s])) {
                    set |= 1 << s;
                }
            }
            return set;
        }

        int classOf(int mark) {
            if (!isMark(mark)) {
                return NONE;
            }
            findClasses();
            return classes[mark];
        }

        int classCount() {
            findClasses();
            return classCount;
        }

        private void findClasses() {
            if (classesAreKnown) {
                return;
            }
            classCount = 0;
            for (int mark = 0; mark < MARKS; mark++) {
                int like = leastAlike(mark);
                if (like == mark) {
                    classes[mark] = classCount;
                    classCount++;
                } else {
                    classes[mark] = classes[like];
                }
            }
            classesAreKnown = true;
        }

        private int leastAlike(int mark) {
            for (int other = 0; other < mark; other++) {
                if (!isSeparated(mark, other)) {
                    return other;
                }
            }
            return mark;
        }

        private boolean isSeparated(int mark, int other) {
            for (int i = 0; i < BOOKS * SWITCHES; i++) {
                if (rows[i].separates(mark, other)) {
                    return true;
                }
            }
            return false;
        }

        /** Makes the way the whole one of a packet from a host in a mixture. */
        void trace(Way way, int mixture, int host, int mark) {
            way.startAt(switchOf(host));
            // Each step comes to one switch more or ends the way.
            for (int i = 0; i < SWITCHES && way.end() == NONE; i++) {
                way.goOn(whereTo(way.last(), mixture, mark));
            }
        }

        /** Where a switch sends a packet: to another switch, or to its end. */
        int whereTo(int s, int mixture, int mark) {
            if (s < 0 || s >= SWITCHES) {
                return ENDS + LOST;
            }
            int book = (mixture >> s & 1) != 0 ? NEW : OLD;
            int act = rows[book * SWITCHES + s].actOfMark[mark & MARKS - 1];
            if (act < 0 || act >= PORTS) {
                return ENDS + DROPPED;
            }
            int there = ports[s * PORTS + act];
            if (there == NOTHING) {
                return ENDS + LOST;
            }
            return there >= HOST_AT ? ENDS + there - HOST_AT : there / PORTS;
        }
    }

    /** What must be so for all marks of a span, from host a. */
    private static final class Want {
        private final int kind;
        private final int value;
        private final int bits;
        private final int a;
        private final int b;
        private final int s;

        Want(int kind, int value, int bits, int a, int b, int s) {
            this.kind = kind;
            this.value = value;
            this.bits = bits;
            this.a = a;
            this.b = b;
            this.s = s;
        }

        boolean needsHost(int h) {
            return a == h || (hasTarget(kind) && b == h);
        }

        boolean hasMark(int mark) {
            return spanHas(value, bits, mark);
        }

        /** Whether a way that has ended is as wanted; the other two are those by one book alone. */
        boolean isMet(Way way, Way byOld, Way byNew) {
            switch (kind) {
                case COMES:
                    return way.end() == b;
                case NO_RING:
                    return way.end() != RING;
                case NEVER:
                    return way.end() != b;
                case PAST:
                    return way.end() != b || way.passes(s);
                default:
                    return way.isLike(byOld) || way.isLike(byNew);
            }
        }
    }

    /** The wants, and which mixtures are good by them. */
    private static final class Judge {
        private final Net net;
        private final Want[] wants = new Want[WANTS];
        private final boolean[] kept = new boolean[WANTS];
        private final boolean[] good = new boolean[MIXTURES];
        private final Way byOld = new Way();
        private final Way byNew = new Way();
        private final Way mixed = new Way();
        private int count;
        private boolean keptIsKnown;
        private boolean goodIsKnown;

        Judge(Net net) {
            this.net = net;
            // So that no place of the row is ever null.
            Want blank = new Want(NO_RING, 0, 0, 0, 0, 0);
            for (int i = 0; i < WANTS; i++) {
                wants[i] = blank;
            }
        }

        /** What was found out is no longer so once the net, a rule or a want changes. */
        void forget() {
            keptIsKnown = false;
            goodIsKnown = false;
        }

        void dropWants() {
            count = 0;
        }

        int wantCount() {
            return count;
        }

        boolean hasWant(int i) {
            return i >= 0 && i < count;
        }

        void addWant(Want wish) {
            if (count < WANTS) {
                wants[count] = wish;
                count++;
            }
        }

        void removeWant(int i) {
            if (!hasWant(i)) {
                return;
            }
            for (int j = i; j + 1 < count; j++) {
                wants[j] = wants[j + 1];
            }
            count--;
        }

        boolean needsHost(int h) {
            for (int i = 0; i < count; i++) {
                if (wants[i].needsHost(h)) {
                    return true;
                }
            }
            return false;
        }

        /** The least mark for which a want does not hold in a mixture, or NONE. */
        int leastBadMark(int i, int mixture) {
            if (!hasWant(i)) {
                return NONE;
            }
            Want wish = wants[i];
            for (int mark = 0; mark < MARKS; mark++) {
                if (wish.hasMark(mark)) {
                    traceByBooks(wish.a, mark);
                    net.trace(mixed, mixture, wish.a, mark);
                    if (!wish.isMet(mixed, byOld, byNew)) {
                        return mark;
                    }
                }
            }
            return NONE;
        }

        boolean isKept(int i) {
            findKept();
            return hasWant(i) && kept[i];
        }

        /** The first kept want that does not hold in a mixture, or NONE. */
        int firstBroken(int mixture) {
            findKept();
            for (int i = 0; i < count; i++) {
                if (kept[i] && leastBadMark(i, mixture) != NONE) {
                    return i;
                }
            }
            return NONE;
        }

        /** How many kept wants a packet breaks that has ended. */
        int countBroken(int host, int mark, Way way) {
            findKept();
            traceByBooks(host, mark);
            int broken = 0;
            for (int i = 0; i < count; i++) {
                Want wish = wants[i];
                if (kept[i] && wish.a == host && wish.hasMark(mark)
                        && !wish.isMet(way, byOld, byNew)) {
                    broken++;
                }
            }
            return broken;
        }

        /** Finds out which mixtures of unlike switches are good, for isGood to tell. */
        void findGood() {
            if (goodIsKnown) {
                return;
            }
            findKept();
            int unlike = net.unlike();
            for (int mixture = 0; mixture < MIXTURES; mixture++) {
                good[mixture] = isWithin(mixture, unlike);
            }
            for (int i = 0; i < count; i++) {
                for (int mark = 0; mark < MARKS; mark++) {
                    if (kept[i] && wants[i].hasMark(mark)) {
                        strikeNotGood(wants[i], mark);
                    }
                }
            }
            goodIsKnown = true;
        }

        boolean isGood(int mixture) {
            return mixture >= 0 && mixture < MIXTURES && good[mixture];
        }

        private void findKept() {
            if (keptIsKnown) {
                return;
            }
            for (int i = 0; i < count; i++) {
                kept[i] = leastBadMark(i, 0) == NONE && leastBadMark(i, net.allNew()) == NONE;
            }
            keptIsKnown = true;
        }

        private void strikeNotGood(Want wish, int mark) {
            traceByBooks(wish.a, mark);
            for (int mixture = 0; mixture < MIXTURES; mixture++) {
                if (good[mixture]) {
                    net.trace(mixed, mixture, wish.a, mark);
                    good[mixture] = wish.isMet(mixed, byOld, byNew);
                }
            }
        }

        private void traceByBooks(int host, int mark) {
            net.trace(byOld, 0, host, mark);
            net.trace(byNew, net.allNew(), host, mark);
        }
    }

    /** A row of rounds, each a set of switches as a number. */
    private static final class Plan {
        private final int[] sets = new int[SWITCHES];
        private int size;

        void clear() {
            size = 0;
        }

        void add(int set) {
            if (size < SWITCHES) {
                sets[size] = set;
                size++;
            }
        }

        int size() {
            return size;
        }

        boolean has(int i) {
            return i >= 0 && i < size;
        }

        int get(int i) {
            return has(i) ? sets[i] : 0;
        }

        int members() {
            return membersAhead(size);
        }

        int membersAhead(int i) {
            int all = 0;
            for (int j = 0; j < i && j < size; j++) {
                all |= sets[j];
            }
            return all;
        }
    }

    /** Makes plans whose rounds are all taken. */
    private static final class Planner {
        private static final int NEVER_DONE = 1000;

        private final Net net;
        private final Judge judge;
        // By the set that has changed: the fewest rounds, or the orders, from there to the end.
        private final int[] fewest = new int[MIXTURES];
        private final int[] orderings = new int[MIXTURES];

        Planner(Net net, Judge judge) {
            this.net = net;
            this.judge = judge;
        }

        int countGood() {
            judge.findGood();
            int count = 0;
            for (int mixture = 0; mixture < MIXTURES; mixture++) {
                if (judge.isGood(mixture)) {
                    count++;
                }
            }
            return count;
        }

        /** The least mixture by which a round behind others is not taken, or NONE. */
        int whyNotTaken(int ahead, int set) {
            judge.findGood();
            return leastNotGood(ahead, set);
        }

        /** Makes the plan the one of the fewest rounds; false, and it stays, if there is none. */
        boolean makeLeast(Plan plan) {
            judge.findGood();
            int unlike = net.unlike();
            for (int done = unlike; done >= 0; done--) {
                if (isWithin(done, unlike) && done < MIXTURES) {
                    fewest[done] = fewestFrom(done, unlike);
                }
            }
            if (fewest[0] >= NEVER_DONE) {
                return false;
            }
            plan.clear();
            int done = 0;
            for (int i = 0; i < SWITCHES && done != unlike; i++) {
                int set = leastRound(done, unlike);
                plan.add(set);
                done |= set;
            }
            return true;
        }

        int countOrders() {
            judge.findGood();
            return findOrderings(net.unlike());
        }

        /** Makes the k-th safe order the plan; false, and the plan stays, if there is none. */
        boolean makeOrder(Plan plan, int k) {
            judge.findGood();
            int unlike = net.unlike();
            if (k < 0 || k >= findOrderings(unlike)) {
                return false;
            }
            plan.clear();
            int done = 0;
            int toSkip = k;
            for (int i = 0; i < SWITCHES && done != unlike; i++) {
                int s = 0;
                while (s + 1 < SWITCHES && toSkip >= orderingsBy(done, s, unlike)) {
                    toSkip -= orderingsBy(done, s, unlike);
                    s++;
                }
                plan.add(1 << s);
                done |= 1 << s;
            }
            return true;
        }

        private int findOrderings(int unlike) {
            for (int done = unlike; done >= 0; done--) {
                if (isWithin(done, unlike) && done < MIXTURES) {
                    orderings[done] = orderingsFrom(done, unlike);
                }
            }
            return orderings[0];
        }

        private int leastNotGood(int ahead, int set) {
            for (int some = 0; some <= set && some < MIXTURES; some++) {
                if (isWithin(some, set) && !judge.isGood(ahead | some)) {
                    return ahead | some;
                }
            }
            return NONE;
        }

        private int fewestFrom(int done, int unlike) {
            if (done == unlike) {
                return 0;
            }
            int best = NEVER_DONE;
            for (int set = 1; set <= unlike && set < MIXTURES; set++) {
                if (isWithin(set, unlike & ~done) && fewest[done | set] + 1 < best
                        && leastNotGood(done, set) == NONE) {
                    best = fewest[done | set] + 1;
                }
            }
            return best;
        }

        /** The least round by which a plan of the fewest rounds can go on. */
        private int leastRound(int done, int unlike) {
            for (int set = 1; set <= unlike && set < MIXTURES; set++) {
                if (isWithin(set, unlike & ~done) && fewest[done | set] + 1 == fewest[done]
                        && leastNotGood(done, set) == NONE) {
                    return set;
                }
            }
            return unlike & ~done;
        }

        private int orderingsFrom(int done, int unlike) {
            if (!judge.isGood(done)) {
                return 0;
            }
            if (done == unlike) {
                return 1;
            }
            int count = 0;
            for (int s = 0; s < SWITCHES; s++) {
                count += orderingsBy(done, s, unlike);
            }
            return count;
        }

        private int orderingsBy(int done, int s, int unlike) {
            int then = done | 1 << s;
            return then == done || !isWithin(then, unlike) || then >= MIXTURES ? 0 : orderings[then];
        }
    }

    /** A packet that was put in. */
    private static final class Packet {
        private final Way way = new Way();
        private int host;
        private int mark;

        void putInAt(int fromHost, int itsMark, int s) {
            host = fromHost;
            mark = itsMark;
            way.startAt(s);
        }

        boolean isUnderWay() {
            return way.end() == NONE;
        }

        int place() {
            return way.last();
        }

        int end() {
            return way.end();
        }

        int tell(int what) {
            switch (what) {
                case 0:
                    return host;
                case 1:
                    return mark;
                case 2:
                    return isUnderWay() ? place() : NONE;
                case 3:
                    return way.end();
                case 4:
                    return way.length();
                default:
                    return what >= STOPS ? way.stop(what - STOPS) : NONE;
            }
        }
    }

    /** Packets under way while switches change by a plan. */
    private static final class Run {
        private final Net net;
        private final Judge judge;
        private final Plan plan;
        private final Packet[] packets = new Packet[PACKETS];
        private boolean live;
        private int atHand;
        private int changed;
        private int count;
        private int underWay;
        private int broken;

        Run(Net net, Judge judge, Plan plan) {
            this.net = net;
            this.judge = judge;
            this.plan = plan;
            for (int i = 0; i < PACKETS; i++) {
                packets[i] = new Packet();
            }
        }

        void start() {
            live = true;
            atHand = 0;
            changed = 0;
            count = 0;
            underWay = 0;
            broken = 0;
        }

        void stop() {
            live = false;
        }

        boolean isLive() {
            return live;
        }

        int packetCount() {
            return count;
        }

        Packet packetOf(int k) {
            return live && k >= 0 && k < count ? packets[k] : null;
        }

        int putIn(int host, int mark) {
            if (count >= PACKETS) {
                return NONE;
            }
            packets[count].putInAt(host, mark, net.switchOf(host));
            count++;
            underWay++;
            return count - 1;
        }

        void moveOn(Packet traveller) {
            traveller.way.goOn(net.whereTo(traveller.place(), changed, traveller.mark));
            if (!traveller.isUnderWay()) {
                underWay--;
                broken += judge.countBroken(traveller.host, traveller.mark, traveller.way);
            }
        }

        /** Changes a switch of the round at hand; how many of that round are left, or NONE. */
        int takeNew(int s) {
            if (!live || !net.hasSwitch(s) || (left() >> s & 1) == 0) {
                return NONE;
            }
            changed |= 1 << s;
            return Integer.bitCount(left());
        }

        int nextRound() {
            if (!live || !plan.has(atHand) || left() != 0 || underWay != 0) {
                return NONE;
            }
            atHand++;
            return atHand;
        }

        int tell(int what) {
            if (!live) {
                return NONE;
            }
            switch (what) {
                case 0:
                    return atHand;
                case 1:
                    return changed;
                case 2:
                    return count;
                case 3:
                    return underWay;
                case 4:
                    return broken;
                default:
                    return NONE;
            }
        }

        private int left() {
            return plan.get(atHand) & ~changed;
        }
    }
}
