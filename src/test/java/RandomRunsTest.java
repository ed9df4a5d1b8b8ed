import java.util.Random;

/** Runs of up to 512 calls chosen by lot (always the same ones), on the desk and on SlowDesk at once. */
public final class RandomRunsTest {
    private static final int RUNS = 8000;
    // The most calls that are made between two looks at how many are left to a desk.
    private static final int AT_ONCE = 60;
    private static final int[] ODD = {-1, 0, 1, 2, 7, 15, 16, 31, 40, 99, 100, 128,
        Integer.MIN_VALUE, Integer.MAX_VALUE, Integer.MIN_VALUE + 99, Integer.MAX_VALUE - 99};
    private static int wrong = 0;
    // How often what is worth a test came up: a test that never meets it would prove nothing.
    private static final int[] met = new int[12];

    private final Random lot;
    private final int run;
    private final CountedDesk desk = new CountedDesk();
    private final SlowDesk slow = new SlowDesk();
    // Of 100 asked things, how many change the net, a rule or a want.
    private int changes;

    private RandomRunsTest(int run) {
        this.run = run;
        this.lot = new Random(1000003L * run + 17);
    }

    public static void main(String[] args) {
        for (int run = 0; run < RUNS && wrong < 20; run++) {
            new RandomRunsTest(run).go();
        }
        String[] names = {"least none", "least 1", "least 2", "least 3 or more", "some orders", "mid bad",
            "rings", "broken", "next", "not whole", "hosts unplugged", "40 packets"};
        for (int i = 0; i < met.length; i++) {
            System.out.println(names[i] + ": " + met[i]);
            if (met[i] < 20) {
                wrong++;
                System.out.println("too seldom (" + met[i] + "): " + names[i]);
            }
        }
        System.out.println(wrong == 0 ? "all answers are as due" : wrong + " answers are not as due");
        if (wrong != 0) {
            System.exit(1);
        }
    }

    private int same(String call, int got, int due) {
        if (got != due) {
            wrong++;
            System.out.println("run " + run + ": " + call + " answered " + got + ", due is " + due);
        }
        return due;
    }

    private boolean same(String call, boolean got, boolean due) {
        return same(call, got ? 1 : 0, due ? 1 : 0) == 1;
    }

    private int below(int bound) {
        return lot.nextInt(bound);
    }

    /** Mostly 0 .. bound - 1, seldom something odd. */
    private int some(int bound) {
        return below(40) == 0 ? ODD[below(ODD.length)] : below(Math.max(1, bound));
    }

    private void go() {
        int how = below(5);
        if (how < 2) {
            changes = 2;
            buildRouted();
        } else if (how == 2) {
            changes = 1;
            buildForbidding();
        } else {
            changes = 8;
            build();
        }
        while (hasCallsLeft()) {
            ask();
        }
        allState();
    }

    private boolean hasCallsLeft() {
        return desk.callsLeft() > 2 * AT_ONCE;
    }

    private void build() {
        if (below(20) != 0) {
            net(1 + below(7));
        }
        for (int i = 1; i < slow.n; i++) {
            link(below(i), below(4), i, below(4));
        }
        for (int i = below(8); i > 0; i--) {
            link(some(slow.n), some(4), some(slow.n), some(4));
        }
        for (int i = 1 + below(6); i > 0; i--) {
            host(some(slow.n), some(4));
        }
        boolean wide = below(2) == 0;
        for (int s = 0; s < slow.n; s++) {
            for (int i = below(4); i > 0; i--) {
                rule(0, s, wide);
            }
            if (below(5) == 0) {
                copy(s, true);
            }
            for (int i = below(4); i > 0; i--) {
                rule(1, s, wide);
            }
        }
        for (int i = below(6); i > 0; i--) {
            want();
        }
    }

    /** A net in which both books bring all packets to host 0, each by a tree of its own. */
    private void buildRouted() {
        net(4 + below(4));
        for (int i = 2 + below(3); i > 0; i--) {
            host(below(slow.n), below(4));
        }
        for (int i = 150; i > 0; i--) {
            int s = below(slow.n);
            int p = below(4);
            int t = below(slow.n);
            int q = below(4);
            // Most tries would be refused; a few of those are enough.
            if ((s != t && slow.ports[s][p] == null && slow.ports[t][q] == null) || below(20) == 0) {
                link(s, p, t, q);
            }
        }
        for (int book = 0; book < 2; book++) {
            int bits = below(3) == 0 ? 1 << below(4) : 0;
            routeToFirstHost(book, 0, bits);
            if (bits != 0) {
                routeToFirstHost(book, 15, bits);
            }
        }
        int[] kinds = {0, 1, 1, 4, 3};
        for (int i = 2 + below(8); i > 0 && slow.hosts.size() > 1; i--) {
            int kind = kinds[below(below(2) == 0 ? 5 : 3)];
            int a = below(slow.hosts.size());
            int bits = below(2) == 0 ? 0 : below(16);
            int value = below(16);
            int s = below(slow.n);
            same("want(" + kind + ", ..)", desk.want(kind, value, bits, a, 0, s),
                    slow.want(kind, value, bits, a, 0, s));
        }
    }

    /** As Scenes.forbidding: a few mixtures that are not good, wherever the lot puts them. */
    private void buildForbidding() {
        net(3 + below(5));
        host(0, 0);
        host(slow.n - 1, 1);
        for (int s = 0; s + 1 < slow.n; s++) {
            link(s, 1, s + 1, 0);
        }
        for (int mark = below(7) - 1; mark >= 0; mark--) {
            int care = below(1 << slow.n) | below(1 << slow.n);
            int value = below(1 << slow.n);
            for (int s = 0; s < slow.n; s++) {
                boolean any = (care >> s & 1) == 0;
                if (any || (value >> s & 1) == 0) {
                    ruleFor(0, s, mark, 15, 1);
                }
                if (any || (value >> s & 1) == 1) {
                    ruleFor(1, s, mark, 15, 1);
                }
            }
            same("want(2, " + mark + ", ..)", desk.want(2, mark, 15, 0, 1, 0), slow.want(2, mark, 15, 0, 1, 0));
        }
    }

    /** Long branches first: short ones hardly ever make a mixture that is not good. */
    private void routeToFirstHost(int book, int value, int bits) {
        int latest = slow.hosts.get(0)[0];
        int reached = 1 << latest;
        ruleFor(book, latest, value, bits, slow.hosts.get(0)[1]);
        for (int i = 0; i < 600; i++) {
            int s = below(slow.n);
            int p = below(4);
            String there = slow.ports[s][p];
            if ((reached >> s & 1) != 0 || there == null || !there.startsWith("link")) {
                continue;
            }
            int t = there.charAt(5) - '0';
            if (t == latest || (i > 300 && (reached >> t & 1) == 1)) {
                ruleFor(book, s, value, bits, p);
                reached |= 1 << s;
                latest = s;
            }
        }
    }

    private void ruleFor(int book, int s, int value, int bits, int act) {
        same("rule(" + book + ", " + s + ", " + value + ", " + bits + ", 5, " + act + ")",
                desk.rule(book, s, value, bits, 5, act), slow.rule(book, s, value, bits, 5, act));
    }

    private void net(int n) {
        same("net(" + n + ")", desk.net(n), slow.net(n));
    }

    private void link(int s, int p, int t, int q) {
        same("link(" + s + ", " + p + ", " + t + ", " + q + ")", desk.link(s, p, t, q), slow.link(s, p, t, q));
    }

    private void host(int s, int p) {
        same("host(" + s + ", " + p + ")", desk.host(s, p), slow.host(s, p));
    }

    private void rule(int book, int s, boolean wide) {
        int value = some(16);
        int bits = wide ? (below(3) == 0 ? 1 << below(4) : 0) : some(16);
        int rank = some(below(2) == 0 ? 10 : 2);
        int act = some(5);
        same("rule(" + book + ", " + s + ", " + value + ", " + bits + ", " + rank + ", " + act + ")",
                desk.rule(book, s, value, bits, rank, act), slow.rule(book, s, value, bits, rank, act));
    }

    private void copy(int s, boolean back) {
        same("copy(" + s + ", " + back + ")", desk.copy(s, back), slow.copy(s, back));
    }

    private void want() {
        int kind = some(5);
        int value = some(16);
        int bits = below(2) == 0 ? 15 : some(16);
        int a = some(slow.hosts.size());
        int b = some(slow.hosts.size() + (kind == 1 || kind == 4 ? 2 : 0));
        int s = some(slow.n + 1);
        same("want(" + kind + ", " + value + ", " + bits + ", " + a + ", " + b + ", " + s + ")",
                desk.want(kind, value, bits, a, b, s), slow.want(kind, value, bits, a, b, s));
    }

    private void ask() {
        int kind = below(100);
        if (kind < changes) {
            changeSomething();
        } else if (kind < 40) {
            look();
        } else if (kind < 60) {
            makePlan();
        } else {
            goOn();
        }
        state();
    }

    /** A part of what may never change by a call that is refused: all of it would use up the calls too soon. */
    private void state() {
        switch (below(6)) {
            case 0:
                looks();
                break;
            case 1:
                roundsAndStops();
                break;
            case 2:
                runs();
                break;
            default:
        }
    }

    private void allState() {
        looks();
        roundsAndStops();
        runs();
    }

    private void looks() {
        for (int what = -1; what <= 10; what++) {
            if (what != 7 || below(10) == 0) {
                same("look(" + what + ")", desk.look(what), slow.look(what));
            }
        }
    }

    private void roundsAndStops() {
        for (int i = -1; i <= 7; i++) {
            same("plan(" + i + ")", desk.plan(i), slow.plan(i));
            same("on(" + i + ")", desk.on(i), slow.on(i));
        }
    }

    private void runs() {
        for (int what = -1; what <= 5; what++) {
            same("run(" + what + ")", desk.run(what), slow.run(what));
        }
    }

    private void changeSomething() {
        int s = some(slow.n);
        int p = some(4);
        switch (below(14)) {
            case 0:
                link(s, p, some(slow.n), some(4));
                break;
            case 1:
                host(s, p);
                break;
            case 2:
            case 3:
            case 4:
                int hosts = slow.hosts.size();
                if (hosts > 0 && below(2) == 0) {
                    s = slow.hosts.get(hosts - 1)[0];
                    p = slow.hosts.get(hosts - 1)[1];
                }
                same("unplug(" + s + ", " + p + ")", desk.unplug(s, p), slow.unplug(s, p));
                met[10] += slow.hosts.size() < hosts ? 1 : 0;
                break;
            case 5:
            case 6:
                rule(some(2), s, below(2) == 0);
                break;
            case 7:
            case 8:
                int book = some(2);
                int i = some(4);
                same("strike(" + book + ", " + s + ", " + i + ")", desk.strike(book, s, i), slow.strike(book, s, i));
                break;
            case 9:
                copy(s, below(2) == 0);
                break;
            case 10:
            case 11:
                want();
                break;
            case 12:
                int w = some(slow.wants.size());
                same("unwant(" + w + ")", desk.unwant(w), slow.unwant(w));
                break;
            default:
                if (below(8) == 0) {
                    net(some(9));
                }
        }
    }

    private void look() {
        int mixture = some(1 << slow.n);
        int want = some(slow.wants.size());
        switch (below(7)) {
            case 0:
                for (int mark = -1; mark <= 16; mark++) {
                    same("ofClass(" + mark + ")", desk.ofClass(mark), slow.ofClass(mark));
                }
                break;
            case 1:
            case 2:
                int host = some(slow.hosts.size());
                int mark = some(16);
                same("way(" + mixture + ", " + host + ", " + mark + ")",
                        desk.way(mixture, host, mark), slow.way(mixture, host, mark));
                met[6] += slow.on(-1) == 12 ? 1 : 0;
                break;
            case 3:
                same("holds(" + want + ", " + mixture + ")", desk.holds(want, mixture), slow.holds(want, mixture));
                break;
            case 4:
                same("kept(" + want + ")", desk.kept(want), slow.kept(want));
                break;
            default:
                int what = some(2);
                same("why(" + mixture + ", " + what + ")", desk.why(mixture, what), slow.why(mixture, what));
        }
    }

    private void makePlan() {
        switch (below(9)) {
            case 0:
                int count = same("least()", desk.least(), slow.least());
                met[Math.min(3, Math.max(0, count))] += count == 0 ? 0 : 1;
                break;
            case 1:
                int orders = same("orders()", desk.orders(), slow.orders());
                met[4] += orders > 1 && orders < 24 ? 1 : 0;
                int k = some(orders + 1);
                same("order(" + k + ")", desk.order(k), slow.order(k));
                break;
            case 2:
                desk.empty();
                slow.empty();
                break;
            case 3:
            case 4:
            case 5:
                int set = some(1 << slow.n) & (below(3) == 0 ? -1 : slow.look(5));
                same("round(" + set + ")", desk.round(set), slow.round(set));
                met[9] += slow.look(9) == 0 ? 1 : 0;
                break;
            case 6:
                int i = some(slow.plan.size());
                met[5] += same("mid(" + i + ")", desk.mid(i), slow.mid(i)) >= 0 ? 1 : 0;
                break;
            default:
                if (!slow.live || below(10) == 0) {
                    same("begin()", desk.begin(), slow.begin());
                }
        }
    }

    /** Many acts of a run, since a change of anything else soon ends it. */
    private void goOn() {
        if (!slow.live && below(3) != 0) {
            same("begin()", desk.begin(), slow.begin());
        }
        boolean crowd = below(20) == 0;
        for (int i = below(12) + (crowd ? 45 : 0); i > 0 && hasCallsLeft(); i--) {
            int k = some(slow.packets.size());
            switch (below(crowd ? 2 : 8)) {
                case 0:
                case 1:
                    int host = some(slow.hosts.size());
                    int mark = some(16);
                    met[11] += slow.live && slow.packets.size() == 40 ? 1 : 0;
                    same("send(" + host + ", " + mark + ")", desk.send(host, mark), slow.send(host, mark));
                    break;
                case 2:
                case 3:
                    int broken = slow.broken;
                    same("hop(" + k + ")", desk.hop(k), slow.hop(k));
                    met[7] += slow.broken > broken ? 1 : 0;
                    break;
                case 4:
                    int s = some(slow.n);
                    same("change(" + s + ")", desk.change(s), slow.change(s));
                    break;
                case 5:
                    hopAll();
                    break;
                case 6:
                    met[8] += same("next()", desk.next(), slow.next()) >= 0 ? 1 : 0;
                    break;
                default:
                    int[] whats = {0, 1, 2, 3, 4, 5, 99, 100, 101, 102, 106, 107, -1, some(200)};
                    for (int what : whats) {
                        same("packet(" + k + ", " + what + ")", desk.packet(k, what), slow.packet(k, what));
                    }
            }
        }
    }

    private void hopAll() {
        for (int k = 0; k < slow.packets.size(); k++) {
            for (int i = below(9); i > 0 && hasCallsLeft(); i--) {
                int broken = slow.broken;
                same("hop(" + k + ")", desk.hop(k), slow.hop(k));
                met[7] += slow.broken > broken ? 1 : 0;
            }
        }
    }
}
