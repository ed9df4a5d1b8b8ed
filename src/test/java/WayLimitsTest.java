/** Promises 13 and 14 at their limits; above each test its sentence. */
public final class WayLimitsTest {
    private static final int NONE = RuleChangeDesk.NONE;

    private WayLimitsTest() {
    }

    public static void main(String[] args) {
        wayRefusesNoSuchMixture();
        wayRefusesNoSuchHost();
        wayRefusesNoSuchMark();
        wayTakesEachMixture();
        wayTakesEachHostAndMark();
        aWayHasOneToSevenSwitches();
        onTellsEachSwitchOfAWay();
        onBeyondAWay();
        onTellsEachEnd();
        onTellsARingAsItsEnd();
        onAheadOfAnyWay();
        onIsOfTheLatestWay();
        Check.finish();
    }

    // ---- promise 13: "NONE: no such HOST, MARK, MIXTURE."

    // "a MIXTURE (0 .. 2 to the N, less 1)"
    private static void wayRefusesNoSuchMixture() {
        Traces.noneOutside("13 mixture", Scenes.BUSY, 0, 15, (x, mixture) -> x.way(mixture, 0, 9));
        for (int n = 1; n <= 7; n++) {
            int count = n;
            Traces.noneOutside("13 mixture of " + n, () -> Scenes.line(count), 0, (1 << n) - 1,
                    (x, mixture) -> x.way(mixture, 1, 9));
        }
    }

    private static void wayRefusesNoSuchHost() {
        Traces.noneOutside("13 host", Scenes.BUSY, 0, 2, (x, host) -> x.way(0, host, 9));
        Traces.noneOutside("13 host of 6", Scenes::sixHosts, 0, 5, (x, host) -> x.way(3, host, 0));
        Traces.noneOutside("13 host of none", Scenes.FRESH, 0, -1, (x, host) -> x.way(0, host, 0));
        CountedDesk x = Scenes.sixHosts();
        Check.due("13 host 5", x.way(0, 5, 0), 1);
        x.unplug(1, 1);
        Check.due("13 host 5 has gone", x.way(0, 5, 0), NONE);
        Check.due("13 host 4 has not", x.way(0, 4, 0), 1);
    }

    private static void wayRefusesNoSuchMark() {
        Traces.noneOutside("13 mark", Scenes.BUSY, 0, 15, (x, mark) -> x.way(0, 0, mark));
    }

    private static void wayTakesEachMixture() {
        for (int n = 1; n <= 7; n++) {
            CountedDesk x = Scenes.line(n);
            for (int mixture = 0; mixture < 1 << n; mixture++) {
                // By new a switch drops: the way goes on up to the first of the mixture.
                int first = Integer.numberOfTrailingZeros(mixture);
                Check.due("13 line " + n + ", mixture " + mixture, x.way(mixture, 0, 0), Math.min(n, first + 1));
                Check.due("13 line " + n + ", end by " + mixture, x.on(NONE), mixture == 0 ? 1 : 10);
            }
        }
    }

    private static void wayTakesEachHostAndMark() {
        for (int host = 0; host < 6; host++) {
            for (int mark = 0; mark < 16; mark++) {
                CountedDesk x = Scenes.sixHosts();
                Check.due("13 host " + host + ", mark " + mark, x.way(0, host, mark), 1);
                Check.due("13 its switch", x.on(0), host / 4);
                int there = host / 4 * 4 + mark;
                Check.due("13 its end", x.on(NONE), mark > 3 ? 10 : there < 6 ? there : 11);
            }
        }
    }

    // "how many SWITCHES it has"
    private static void aWayHasOneToSevenSwitches() {
        for (int n = 1; n <= 7; n++) {
            CountedDesk x = Scenes.line(n);
            Check.due("13 line " + n, x.way(0, 0, 15), n);
            Check.due("13 line " + n + " from its end", x.way(0, 1, 15), 1);
        }
        Check.due("13 ring of 7", Scenes.ring().way(0, 0, 0), 7);
    }

    // ---- promise 14

    // "Of the latest way(): SWITCH i of it"
    private static void onTellsEachSwitchOfAWay() {
        for (int n = 1; n <= 7; n++) {
            CountedDesk x = Scenes.line(n);
            x.way(0, 0, 0);
            for (int i = 0; i < n; i++) {
                Check.due("14 switch " + i + " of " + n, x.on(i), i);
            }
        }
    }

    // "at i beyond them: NONE"
    private static void onBeyondAWay() {
        for (int n = 1; n <= 7; n++) {
            CountedDesk x = Scenes.line(n);
            x.way(0, 0, 0);
            for (int i : Traces.outside(0, n - 1)) {
                if (i != NONE) {
                    Check.due("14 beyond " + n + ", " + i, x.on(i), NONE);
                }
            }
            Check.due("14 the end of " + n, x.on(NONE), 1);
        }
        CountedDesk x = Scenes.line(7);
        x.way(0, 0, 0);
        x.way(0, 1, 0);
        Check.due("14 what a longer way had is beyond a shorter one", x.on(1), NONE);
        Check.due("14 the shorter one", x.on(0), 6);
    }

    // "Its end by i NONE: 0 .. 5 the HOST to which it COMES, 10 DROPPED, 11 LOST, 12 RING."
    private static void onTellsEachEnd() {
        CountedDesk x = Scenes.sixHosts();
        for (int host = 0; host < 6; host++) {
            x.way(0, host / 4 * 4, host % 4);
            Check.due("14 comes to host " + host, x.on(NONE), host);
            x.way(0, host, host % 4);
            Check.due("14 comes to host " + host + ", that it is from", x.on(NONE), host);
        }
        x.way(0, 5, 15);
        Check.due("14 dropped without a rule", x.on(NONE), 10);
        x.way(0, 5, 3);
        Check.due("14 lost", x.on(NONE), 11);
        x.rule(0, 1, 15, 15, 9, 4);
        x.way(0, 5, 15);
        Check.due("14 dropped by a rule", x.on(NONE), 10);
    }

    // terms 1: "RING (it would come to a SWITCH at which it was)"
    private static void onTellsARingAsItsEnd() {
        CountedDesk x = Scenes.ring();
        Check.due("14 ring of seven", x.way(0, 0, 0), 7);
        Check.due("14 its end", x.on(NONE), 12);
        Check.due("14 its last switch", x.on(6), 6);
        Check.due("14 not the first once more", x.on(7), NONE);
        for (int s = 1; s < 7; s++) {
            CountedDesk y = Scenes.ring();
            y.strike(0, s, 0);
            y.rule(0, s, 0, 0, 0, 0);
            Check.due("14 back from " + s, y.way(0, 0, 0), s + 1);
            Check.due("14 back from " + s + " is a ring", y.on(NONE), 12);
            Check.due("14 back from " + s + ", its last", y.on(s), s);
            Check.due("14 back from " + s + ", no more", y.on(s + 1), NONE);
        }
    }

    // "NONE ahead of any way()."
    private static void onAheadOfAnyWay() {
        CountedDesk x = Scenes.triangle();
        for (int i = -2; i <= 7; i++) {
            Check.due("14 ahead of any way, " + i, x.on(i), NONE);
        }
        int[][] no = {{8, 0, 0}, {-1, 0, 0}, {0, 2, 0}, {0, -1, 0}, {0, 0, 16}, {0, 0, -1}};
        for (int[] c : no) {
            Check.due("14 refused", x.way(c[0], c[1], c[2]), NONE);
            Check.due("14 still ahead of any way", x.on(0), NONE);
            Check.due("14 still no end", x.on(NONE), NONE);
        }
        x.holds(0, 0);
        x.least();
        x.begin();
        x.send(0, 0);
        x.hop(0);
        Check.due("14 a packet's way is none of way()", x.on(0), NONE);
        Check.due("14 nor its end", x.on(NONE), NONE);
    }

    // "Of the latest way()"
    private static void onIsOfTheLatestWay() {
        CountedDesk x = Scenes.wantedTriangle();
        x.way(0, 0, 0);
        x.holds(0, 2);
        x.why(2, 0);
        x.look(7);
        x.least();
        x.mid(0);
        x.begin();
        x.send(1, 0);
        x.hop(0);
        Check.dueRow("14 the way, not those of other calls", x::on, 0, 1, 2, NONE);
        Check.due("14 its end, not that of a packet", x.on(NONE), 1);
        x.way(2, 0, 0);
        Check.dueRow("14 the second way", x::on, 0, 1, NONE);
        Check.due("14 its end", x.on(NONE), 10);
        int[][] no = {{8, 0, 0}, {-1, 0, 0}, {0, 2, 0}, {0, -1, 0}, {0, 0, 16}, {0, 0, -1}};
        for (int[] c : no) {
            x.way(c[0], c[1], c[2]);
            Check.dueRow("14 behind a refused one", x::on, 0, 1, NONE);
            Check.due("14 the end behind a refused one", x.on(NONE), 10);
        }
    }
}
