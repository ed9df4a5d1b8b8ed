import java.util.function.Supplier;

/** Desks that several tests start from. */
final class Scenes {
    /** Just made. */
    static final Supplier<CountedDesk> FRESH = CountedDesk::new;
    /** Some of everything, none of it full; a way was told; a plan, but no run. */
    static final Supplier<CountedDesk> PLANNED = Scenes::planned;
    /** The same with a run: round 0 is half changed, packet 1 has ended, 0 and 2 are under way. */
    static final Supplier<CountedDesk> BUSY = Scenes::busy;
    /** The same with all rounds done, packet 0 ended, packet 1 under way. */
    static final Supplier<CountedDesk> DONE = Scenes::done;
    /** All that the document lets in: switches, hosts, rules, wants, rounds, packets. */
    static final Supplier<CountedDesk> FULL = Scenes::full;

    private Scenes() {
    }

    /**
     * Host 0 at switch 0, host 1 at switch 2; old way 0, 1, 2, new way 0, 2. Switch 1 sends nothing
     * by its new rules, so it must change behind switch 0.
     */
    static CountedDesk triangle() {
        CountedDesk x = new CountedDesk();
        x.net(3);
        x.link(0, 1, 1, 0);
        x.link(1, 1, 2, 0);
        x.link(0, 2, 2, 1);
        x.host(0, 0);
        x.host(2, 3);
        x.rule(0, 0, 0, 0, 1, 1);
        x.rule(0, 1, 0, 0, 1, 1);
        x.rule(0, 2, 0, 0, 1, 3);
        x.rule(1, 0, 0, 0, 1, 2);
        x.rule(1, 2, 0, 0, 1, 3);
        return x;
    }

    /** The triangle with the want that all marks come from host 0 to host 1. */
    static CountedDesk wantedTriangle() {
        CountedDesk x = triangle();
        x.want(0, 0, 0, 0, 1, 0);
        return x;
    }

    /** So many switches without links, each with a rule in NEW alone: all are unlike, all is good. */
    static CountedDesk loose(int n) {
        CountedDesk x = new CountedDesk();
        x.net(n);
        for (int s = 0; s < n; s++) {
            x.rule(1, s, 0, 0, 0, 4);
        }
        return x;
    }

    /** A line of switches without rules: port 1 of each leads on; host 0 at the first, host 1 at the last. */
    private static CountedDesk bareLine(int n) {
        CountedDesk x = new CountedDesk();
        x.net(n);
        x.host(0, 0);
        x.host(n - 1, 1);
        for (int s = 0; s + 1 < n; s++) {
            x.link(s, 1, s + 1, 0);
        }
        return x;
    }

    /** A line of switches, each sending on by port 1; host 0 at the first, host 1 at the last. */
    static CountedDesk line(int n) {
        CountedDesk x = bareLine(n);
        for (int s = 0; s < n; s++) {
            x.rule(0, s, 0, 0, 3, 1);
        }
        return x;
    }

    /** Seven switches in a ring, each sending on to the next one; host 0 at switch 0. */
    static CountedDesk ring() {
        CountedDesk x = new CountedDesk();
        x.net(7);
        x.host(0, 2);
        for (int s = 0; s < 7; s++) {
            x.link(s, 1, (s + 1) % 7, 0);
            x.rule(0, s, 0, 0, 3, 1);
        }
        return x;
    }

    /** Old drops everywhere, new sends along a line: each must be new ahead of the one before it. */
    static CountedDesk chain() {
        CountedDesk x = new CountedDesk();
        x.net(7);
        for (int s = 0; s < 7; s++) {
            x.rule(1, s, 0, 0, 0, 1);
        }
        for (int s = 0; s < 6; s++) {
            x.link(s, 1, s + 1, 0);
            x.host(s, 2);
            x.want(4, 0, 0, s, 0, 0);
        }
        return x;
    }

    /** Two switches, both ways WHOLE from both sides: no first change is good. */
    static CountedDesk deadlock() {
        CountedDesk x = new CountedDesk();
        x.net(2);
        x.link(0, 1, 1, 1);
        x.host(0, 0);
        x.host(1, 0);
        for (int s = 0; s < 2; s++) {
            x.rule(0, s, 0, 1, 1, 0);
            x.rule(0, s, 1, 1, 1, 1);
            x.rule(1, s, 0, 1, 1, 1);
            x.rule(1, s, 1, 1, 1, 0);
        }
        x.want(4, 0, 0, 0, 0, 0);
        x.want(4, 0, 0, 1, 0, 0);
        return x;
    }

    /**
     * A line in which mark i comes to host 1 just where the switches of cubes[i][0] are new that are of
     * cubes[i][1] and old that are not; it never must, so these mixtures are not good.
     */
    static CountedDesk forbidding(int n, int[]... cubes) {
        CountedDesk x = bareLine(n);
        for (int s = 0; s < n; s++) {
            for (int i = 0; i < cubes.length; i++) {
                boolean byOld = (cubes[i][0] >> s & 1) == 0 || (cubes[i][1] >> s & 1) == 0;
                boolean byNew = (cubes[i][0] >> s & 1) == 0 || (cubes[i][1] >> s & 1) == 1;
                if (byOld) {
                    x.rule(0, s, i, 15, 0, 1);
                }
                if (byNew) {
                    x.rule(1, s, i, 15, 0, 1);
                }
            }
        }
        for (int i = 0; i < cubes.length; i++) {
            x.want(2, i, 15, 0, 1, 0);
        }
        return x;
    }

    /**
     * By old the way is 0, 1, 3, by new 0, 2, 4, all of it dropped at its last switch; with 0 alone new it
     * is 0, 2, 3, with 1 alone new 0, 1, 4: as long, and with the same end. Host 0 wants it WHOLE.
     */
    static CountedDesk twoLanes() {
        CountedDesk x = new CountedDesk();
        x.net(5);
        x.host(0, 0);
        for (int s = 1; s <= 2; s++) {
            x.link(0, s, s, 0);
            x.link(s, 1, 3, s);
            x.link(s, 2, 4, s);
            x.rule(0, s, 0, 0, 0, 1);
            x.rule(1, s, 0, 0, 0, 2);
        }
        x.rule(0, 0, 0, 0, 0, 1);
        x.rule(1, 0, 0, 0, 0, 2);
        x.want(4, 0, 0, 0, 0, 0);
        return x;
    }

    /** Six hosts at two switches; by OLD both send mark p to port p, and drop marks from 4 on. */
    static CountedDesk sixHosts() {
        CountedDesk x = new CountedDesk();
        x.net(2);
        for (int h = 0; h < 6; h++) {
            x.host(h / 4, h % 4);
        }
        for (int p = 0; p < 4; p++) {
            x.rule(0, 0, p, 15, 0, p);
            x.rule(0, 1, p, 15, 0, p);
        }
        return x;
    }

    private static CountedDesk planned() {
        CountedDesk x = new CountedDesk();
        x.net(4);
        x.link(0, 1, 1, 0);
        x.link(1, 1, 2, 0);
        x.link(0, 2, 2, 1);
        x.link(2, 2, 3, 0);
        x.host(0, 0);
        x.host(2, 3);
        x.host(3, 3);
        x.rule(0, 0, 0, 0, 1, 1);
        x.rule(0, 1, 0, 0, 1, 1);
        x.rule(0, 2, 0, 8, 1, 3);
        x.rule(0, 2, 8, 8, 1, 2);
        x.rule(0, 3, 0, 0, 1, 3);
        x.rule(1, 0, 0, 0, 1, 2);
        x.copy(2, true);
        x.rule(1, 3, 0, 0, 1, 3);
        x.rule(1, 3, 9, 15, 2, 4);
        x.want(0, 0, 8, 0, 1, 0);
        x.want(1, 0, 0, 0, 0, 0);
        x.want(3, 0, 0, 0, 1, 1);
        x.want(2, 0, 8, 0, 2, 0);
        x.want(4, 0, 1, 0, 0, 0);
        x.way(0, 0, 9);
        x.round(9);
        x.round(2);
        return x;
    }

    private static CountedDesk busy() {
        CountedDesk x = planned();
        x.begin();
        x.send(0, 9);
        x.hop(0);
        x.send(1, 3);
        x.hop(1);
        x.change(3);
        x.send(2, 15);
        return x;
    }

    private static CountedDesk done() {
        CountedDesk x = planned();
        x.begin();
        x.send(1, 3);
        x.hop(0);
        x.change(0);
        x.change(3);
        x.next();
        x.change(1);
        x.next();
        x.send(0, 2);
        return x;
    }

    private static CountedDesk full() {
        CountedDesk x = new CountedDesk();
        x.net(7);
        for (int s = 0; s < 7; s++) {
            x.link(s, 0, (s + 1) % 7, 1);
        }
        for (int s = 0; s < 6; s += 2) {
            x.link(s, 3, s + 1, 3);
        }
        for (int h = 0; h < 6; h++) {
            x.host(h, 2);
        }
        for (int s = 0; s < 7; s++) {
            for (int j = 0; j < 5; j++) {
                x.rule(0, s, (s + 3 * j) % 16, 15, 9, j % 4);
                x.rule(1, s, (s + 3 * j + 1) % 16, 15, 9, j % 4);
            }
            x.rule(0, s, 0, 0, 0, 0);
            x.rule(1, s, 0, 0, 0, s < 6 ? 2 : 1);
        }
        for (int i = 0; i < 10; i++) {
            x.want(i % 5, i, 15, i % 6, (i + 1) % 6, 6);
        }
        x.way(127, 5, 15);
        for (int s = 0; s < 7; s++) {
            x.round(1 << s);
        }
        x.begin();
        for (int k = 0; k < 40; k++) {
            x.send(k % 6, k % 16);
        }
        return x;
    }
}
