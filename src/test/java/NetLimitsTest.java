import java.util.function.Supplier;

/** Promises 1 to 5 at their limits; above each test stands the sentence of the document that it is for. */
public final class NetLimitsTest {
    private static final int NONE = RuleChangeDesk.NONE;

    private NetLimitsTest() {
    }

    public static void main(String[] args) {
        noneIsMinusOne();
        aNewObjectHasOneSwitch();
        aNewObjectHasNothingElse();
        netRefusesOtherNumbers();
        netOfEachNumberIsBare();
        aNetHasNoSwitchBeyondItsLast();
        linkRefusesWhatThereIsNot();
        linkRefusesASwitchWithItself();
        linkRefusesWhatIsTaken();
        linkTakesEachPort();
        linkTakesTheLastPorts();
        hostRefusesWhatThereIsNot();
        hostRefusesWhatIsTaken();
        hostRefusesTheSeventh();
        hostTakesTheLastPort();
        unplugRefusesWhatThereIsNot();
        unplugRefusesWhereNothingIs();
        unplugTakesALinkAtBothEnds();
        unplugRefusesAHostThatIsNotTheLast();
        unplugTakesHostsFromTheLastOn();
        unplugRefusesAHostOfAWant();
        unplugTakesAHostOfNoWant();
        Check.finish();
    }

    // "The constants: NONE = -1: There is none."
    private static void noneIsMinusOne() {
        Check.due("NONE", RuleChangeDesk.NONE, -1);
    }

    // ---- promise 1

    // "A net of one SWITCH." and, of terms 1, "each with PORTS 0 .. 3; at a PORT is nothing (at first)"
    private static void aNewObjectHasOneSwitch() {
        CountedDesk x = new CountedDesk();
        Check.due("1 switches", x.look(0), 1);
        for (int p = 0; p < 4; p++) {
            Check.due("1 nothing is at port " + p, x.unplug(0, p), false);
            Check.due("1 port " + p, x.host(0, p), p);
        }
        Check.due("1 mixture 1", x.way(1, 0, 0), 1);
        Traces.none("1 host at switch 1", Scenes.FRESH, y -> y.host(1, 0));
        Traces.no("1 link to switch 1", Scenes.FRESH, y -> y.link(0, 0, 1, 0));
        Traces.none("1 rule of switch 1", Scenes.FRESH, y -> y.rule(0, 1, 0, 0, 0, 0));
        Traces.none("1 copy of switch 1", Scenes.FRESH, y -> y.copy(1, true));
        Check.due("1 no mixture 2", x.way(2, 0, 0), NONE);
    }

    private static void aNewObjectHasNothingElse() {
        CountedDesk x = new CountedDesk();
        Check.dueRow("1 look", x::look, 1, 0, 0, 0, 0, 0, 1, 1, 0, 1);
        Check.dueRow("1 no run", x::run, NONE, NONE, NONE, NONE, NONE);
        Check.due("1 no way", x.on(0), NONE);
        Check.due("1 no end", x.on(NONE), NONE);
        Check.due("1 no round", x.plan(0), NONE);
        Check.due("1 no round is not taken", x.mid(0), NONE);
        Check.due("1 no want", x.kept(0), NONE);
        Check.due("1 no packet", x.packet(0, 0), NONE);
        Check.due("1 no run begins", x.begin(), false);
        Check.due("1 no rule", x.strike(0, 0, 0), NONE);
        Check.due("1 no host", x.way(0, 0, 0), NONE);
    }

    // ---- promise 2

    // "false, and nothing is done, if n is not 1 .. 7"
    private static void netRefusesOtherNumbers() {
        Traces.noOutside("2 fresh net", Scenes.FRESH, 1, 7, CountedDesk::net);
        Traces.noOutside("2 busy net", Scenes.BUSY, 1, 7, CountedDesk::net);
        Traces.no("2 done net 0", Scenes.DONE, x -> x.net(0));
        Traces.no("2 full net 0", Scenes.FULL, x -> x.net(0));
        Traces.no("2 full net 8", Scenes.FULL, x -> x.net(8));
    }

    // "A net of n SWITCHES, without LINKS, HOSTS, RULES, WANTS: true"
    private static void netOfEachNumberIsBare() {
        for (int n = 1; n <= 7; n++) {
            CountedDesk x = Scenes.FULL.get();
            Check.due("2 full net " + n, x.net(n), true);
            isBare("2 full net " + n, x, n);
            CountedDesk y = Scenes.BUSY.get();
            Check.due("2 busy net " + n, y.net(n), true);
            isBare("2 busy net " + n, y, n);
        }
    }

    private static void isBare(String what, CountedDesk x, int n) {
        Check.dueRow(what + " look", x::look, n, 0, 0, 0, 0, 0, 1, 1, 0, 1);
        Check.due(what + " run", x.run(0), NONE);
        Check.due(what + " plan", x.plan(0), NONE);
        Check.due(what + " packet", x.packet(0, 0), NONE);
        Check.due(what + " want", x.kept(0), NONE);
        Check.due(what + " class of 15", x.ofClass(15), 0);
        for (int s = 0; s < n; s++) {
            for (int p = 0; p < 4; p++) {
                Check.due(what + " port " + s + ", " + p, x.unplug(s, p), false);
            }
            Check.due(what + " old rule of " + s, x.strike(0, s, 0), NONE);
            Check.due(what + " new rule of " + s, x.strike(1, s, 0), NONE);
        }
        Check.due(what + " first host", x.host(n - 1, 3), 0);
        Check.due(what + " way", x.way((1 << n) - 1, 0, 15), 1);
        Check.due(what + " dropped", x.on(NONE), 10);
        Check.due(what + " first want", x.want(1, 0, 0, 0, 0, 0), 0);
        Check.due(what + " first rule", x.rule(1, n - 1, 0, 0, 0, 3), 1);
    }

    // "THE NET has SWITCHES 0 .. N - 1 (N 1 .. 7)"
    private static void aNetHasNoSwitchBeyondItsLast() {
        for (int n = 1; n <= 7; n++) {
            int beyond = n;
            int last = n - 1;
            Supplier<CountedDesk> scene = () -> smallAgain(beyond);
            String what = "t1 net " + n;
            Traces.no(what + " link from", scene, x -> x.link(beyond, 3, 0, 3));
            Traces.no(what + " link to", scene, x -> x.link(0, 3, beyond, 3));
            Traces.none(what + " host", scene, x -> x.host(beyond, 3));
            Traces.no(what + " unplug", scene, x -> x.unplug(beyond, 0));
            Traces.none(what + " old rule", scene, x -> x.rule(0, beyond, 0, 0, 0, 0));
            Traces.none(what + " new rule", scene, x -> x.rule(1, beyond, 0, 0, 0, 0));
            Traces.none(what + " old strike", scene, x -> x.strike(0, beyond, 0));
            Traces.none(what + " new strike", scene, x -> x.strike(1, beyond, 0));
            Traces.none(what + " copy back", scene, x -> x.copy(beyond, true));
            Traces.none(what + " copy", scene, x -> x.copy(beyond, false));
            Traces.none(what + " past", scene, x -> x.want(3, 0, 0, 0, 0, beyond));
            Traces.none(what + " round", scene, x -> x.round(1 << beyond));
            Traces.none(what + " change", scene, x -> x.change(beyond));
            CountedDesk x = smallAgain(n);
            Check.due(what + " rule of the last", x.rule(1, last, 0, 0, 0, 0), last == 0 ? 2 : 1);
            Check.due(what + " past the last", x.want(3, 0, 0, 0, 0, last), 1);
            Check.due(what + " copy of the last", x.copy(last, true), 0);
            Check.due(what + " host at the last", x.host(last, 3), 1);
        }
    }

    /** A net of n switches that was one of 7 before, with things at each of them; with a run. */
    private static CountedDesk smallAgain(int n) {
        CountedDesk x = Scenes.loose(7);
        for (int s = 0; s < 6; s++) {
            x.link(s, 0, s + 1, 1);
            x.host(s, 2);
            x.rule(0, s, 1, 1, 1, 1);
        }
        x.net(n);
        x.host(0, 0);
        x.rule(1, 0, 0, 0, 0, 0);
        x.want(1, 0, 0, 0, 0, 0);
        x.round(1);
        x.begin();
        x.send(0, 0);
        return x;
    }

    // ---- promise 3

    // "False, and nothing is done: no such ones"
    private static void linkRefusesWhatThereIsNot() {
        Traces.noOutside("3 link from switch", Scenes.BUSY, 0, 3, (x, s) -> x.link(s, 3, 1, 3));
        Traces.noOutside("3 link from port", Scenes.BUSY, 0, 3, (x, p) -> x.link(0, p, 1, 3));
        Traces.noOutside("3 link from another port", Scenes.BUSY, 0, 3, (x, p) -> x.link(3, p, 1, 3));
        Traces.noOutside("3 link to switch", Scenes.BUSY, 0, 3, (x, t) -> x.link(1, 3, t, 3));
        Traces.noOutside("3 link to port", Scenes.BUSY, 0, 3, (x, q) -> x.link(1, 3, 0, q));
        Traces.noOutside("3 link to another port", Scenes.BUSY, 0, 3, (x, q) -> x.link(1, 3, 3, q));
    }

    // "False, and nothing is done: .. s is t"
    private static void linkRefusesASwitchWithItself() {
        Traces.no("3 two free ports of 1", Scenes.BUSY, x -> x.link(1, 2, 1, 3));
        Traces.no("3 two free ports of 3", Scenes.BUSY, x -> x.link(3, 2, 3, 1));
        Traces.no("3 a port with itself", Scenes.BUSY, x -> x.link(0, 3, 0, 3));
        Traces.no("3 the only switch", Scenes.FRESH, x -> x.link(0, 0, 0, 1));
        Traces.no("3 the last of 7", Scenes.FULL, x -> x.link(6, 2, 6, 3));
    }

    // "False, and nothing is done: .. or something is at one of them"
    private static void linkRefusesWhatIsTaken() {
        Traces.no("3 from a host's port", Scenes.BUSY, x -> x.link(0, 0, 1, 3));
        Traces.no("3 to a host's port", Scenes.BUSY, x -> x.link(1, 3, 0, 0));
        Traces.no("3 from the last host's port", Scenes.BUSY, x -> x.link(3, 3, 1, 3));
        Traces.no("3 from a link's first end", Scenes.BUSY, x -> x.link(0, 1, 3, 1));
        Traces.no("3 from a link's other end", Scenes.BUSY, x -> x.link(1, 0, 3, 1));
        Traces.no("3 to a link's first end", Scenes.BUSY, x -> x.link(3, 1, 0, 1));
        Traces.no("3 to a link's other end", Scenes.BUSY, x -> x.link(3, 1, 1, 0));
        Traces.no("3 to a link that leads to port 0 of switch 0", NetLimitsTest::linkToTheFirstPort,
                x -> x.link(2, 0, 1, 3));
        Traces.no("3 a link once more", Scenes.BUSY, x -> x.link(0, 1, 1, 0));
        Traces.no("3 a link the other way round", Scenes.BUSY, x -> x.link(1, 0, 0, 1));
        Traces.no("3 both are taken", Scenes.BUSY, x -> x.link(0, 0, 3, 3));
    }

    private static CountedDesk linkToTheFirstPort() {
        CountedDesk x = new CountedDesk();
        x.net(3);
        x.link(0, 0, 1, 3);
        return x;
    }

    // "A LINK joins PORT p of SWITCH s and PORT q of SWITCH t: true."
    private static void linkTakesEachPort() {
        for (int n = 2; n <= 7; n++) {
            for (int p = 0; p < 4; p++) {
                for (int q = 0; q < 4; q++) {
                    CountedDesk x = new CountedDesk();
                    x.net(n);
                    String what = "3 link 0, " + p + ", " + (n - 1) + ", " + q;
                    Check.due(what, x.link(0, p, n - 1, q), true);
                    Check.due(what + " count", x.look(2), 1);
                    Check.due(what + " is at p", x.host(0, p), NONE);
                    Check.due(what + " is at q", x.host(n - 1, q), NONE);
                    x.host(0, (p + 1) % 4);
                    x.host(n - 1, (q + 1) % 4);
                    x.rule(0, 0, 0, 0, 0, p);
                    x.rule(1, n - 1, 0, 0, 0, q);
                    Check.due(what + " leads on", x.way(0, 0, 0) * 10 + x.on(1), 20 + n - 1);
                    Check.due(what + " leads back", x.way((1 << n) - 1, 1, 0) * 10 + x.on(1), 20);
                }
            }
        }
    }

    // the last place that is left, and none left: 28 ports have 14 links
    private static void linkTakesTheLastPorts() {
        Check.due("3 links of all ports", allLinked().look(2), 14);
        for (int s = 0; s < 7; s++) {
            int from = s;
            Traces.no("3 no port is left at " + s, NetLimitsTest::allLinked, x -> x.link(from, 0, (from + 1) % 7, 3));
            Traces.none("4 no port is left at " + s, NetLimitsTest::allLinked, x -> x.host(from, 2));
        }
        CountedDesk x = allLinked();
        Check.due("3 one goes", x.unplug(3, 1), true);
        Check.due("3 thirteen", x.look(2), 13);
        Check.due("3 and comes again", x.link(2, 0, 3, 1), true);
        Check.due("3 fourteen", x.look(2), 14);
    }

    private static CountedDesk allLinked() {
        CountedDesk x = new CountedDesk();
        x.net(7);
        for (int s = 0; s < 7; s++) {
            x.link(s, 0, (s + 1) % 7, 1);
            x.link(s, 2, (s + 2) % 7, 3);
        }
        return x;
    }

    // ---- promise 4

    // "NONE, and nothing is done: no such PORT"
    private static void hostRefusesWhatThereIsNot() {
        Traces.noneOutside("4 host at switch", Scenes.BUSY, 0, 3, (x, s) -> x.host(s, 1));
        Traces.noneOutside("4 host at switch, port 3", Scenes.BUSY, 0, 3, (x, s) -> x.host(s, 3));
        for (int s = 0; s < 4; s++) {
            int at = s;
            Traces.noneOutside("4 host at " + s + ", port", Scenes.BUSY, 0, 3, (x, p) -> x.host(at, p));
        }
    }

    // "NONE, and nothing is done: .. something is there"
    private static void hostRefusesWhatIsTaken() {
        int[][] taken = {{0, 0}, {2, 3}, {3, 3}, {0, 1}, {1, 0}, {1, 1}, {2, 0}, {0, 2}, {2, 1}, {2, 2}, {3, 0}};
        for (int[] port : taken) {
            Traces.none("4 taken " + port[0] + ", " + port[1], Scenes.BUSY, x -> x.host(port[0], port[1]));
        }
        Traces.none("4 a link leads to port 0 of switch 0", NetLimitsTest::linkToTheFirstPort, x -> x.host(1, 3));
    }

    // "NONE, and nothing is done: .. or there are 6"
    private static void hostRefusesTheSeventh() {
        Traces.none("4 a seventh at a free port", Scenes.FULL, x -> x.host(6, 2));
        Traces.none("4 a seventh at the last free port", Scenes.FULL, x -> x.host(6, 3));
        CountedDesk x = new CountedDesk();
        x.net(7);
        for (int h = 0; h < 6; h++) {
            Check.due("4 host " + h, x.host(h, h % 4), h);
            Check.due("4 hosts", x.look(1), h + 1);
        }
        Check.due("4 a seventh", x.host(6, 0), NONE);
        Check.due("4 six", x.look(1), 6);
        Check.due("4 the sixth goes", x.unplug(5, 1), true);
        Check.due("4 there is a place again", x.host(6, 0), 5);
        Check.due("4 but one alone", x.host(5, 1), NONE);
    }

    // the last port of a net that has fewer ports than hosts could come
    private static void hostTakesTheLastPort() {
        CountedDesk x = new CountedDesk();
        for (int p = 3; p >= 0; p--) {
            Check.due("4 port " + p, x.host(0, p), 3 - p);
        }
        for (int p = -1; p <= 4; p++) {
            Check.due("4 none is left, " + p, x.host(0, p), NONE);
        }
        Check.due("4 four", x.look(1), 4);
    }

    // ---- promise 5

    // "false, and nothing is done, else": no such port
    private static void unplugRefusesWhatThereIsNot() {
        for (int i = 0; i < 4; i++) {
            int fixed = i;
            Traces.noOutside("5 switch, port " + i, Scenes.BUSY, 0, 3, (x, s) -> x.unplug(s, fixed));
            Traces.noOutside("5 port, switch " + i, Scenes.BUSY, 0, 3, (x, p) -> x.unplug(fixed, p));
        }
    }

    // "false, and nothing is done, else": nothing is there
    private static void unplugRefusesWhereNothingIs() {
        int[][] free = {{0, 3}, {1, 2}, {1, 3}, {3, 1}, {3, 2}};
        for (int[] port : free) {
            Traces.no("5 free " + port[0] + ", " + port[1], Scenes.BUSY, x -> x.unplug(port[0], port[1]));
        }
        Traces.no("5 fresh", Scenes.FRESH, x -> x.unplug(0, 0));
        Traces.no("5 free in a full net", Scenes.FULL, x -> x.unplug(6, 3));
        CountedDesk x = Scenes.BUSY.get();
        x.unplug(0, 1);
        Check.due("5 a link goes once", x.unplug(0, 1), false);
        x.net(2);
        x.host(1, 1);
        x.unplug(1, 1);
        Check.due("5 a host goes once", x.unplug(1, 1), false);
        Check.due("5 no host is left", x.look(1), 0);
    }

    // "What is at PORT p of SWITCH s goes (a LINK at both its ends ..): true"
    private static void unplugTakesALinkAtBothEnds() {
        int[][] ends = {{0, 1, 1, 0}, {1, 1, 2, 0}, {0, 2, 2, 1}, {2, 2, 3, 0}};
        for (int[] link : ends) {
            for (int side = 0; side < 4; side += 2) {
                CountedDesk x = Scenes.BUSY.get();
                String what = "5 link at " + link[side] + ", " + link[side + 1];
                Check.due(what, x.unplug(link[side], link[side + 1]), true);
                Check.due(what + " is no more", x.look(2), 3);
                Check.due(what + " hosts stay", x.look(1), 3);
                Check.due(what + " first end", x.unplug(link[0], link[1]), false);
                Check.due(what + " other end", x.unplug(link[2], link[3]), false);
                Check.due(what + " both are free", x.link(link[2], link[3], link[0], link[1]), true);
            }
        }
        int[][] firstPort = {{0, 0}, {1, 3}};
        for (int[] end : firstPort) {
            CountedDesk x = linkToTheFirstPort();
            Check.due("5 link of the first port, at " + end[0], x.unplug(end[0], end[1]), true);
            Check.due("5 no link", x.look(2), 0);
            Check.due("5 the first port is free", x.host(0, 0), 0);
            Check.due("5 the other one too", x.host(1, 3), 1);
        }
    }

    // "of a HOST only the last one that came may go"
    private static void unplugRefusesAHostThatIsNotTheLast() {
        for (int h = 0; h < 5; h++) {
            int at = h;
            Traces.no("5 host " + h + " of 6", NetLimitsTest::sixHosts, x -> x.unplug(at, 2));
        }
        for (int p = 0; p < 4; p++) {
            CountedDesk x = new CountedDesk();
            x.host(0, p);
            x.host(0, (p + 1) % 4);
            Check.due("5 the first of two at " + p, x.unplug(0, p), false);
            Check.due("5 two", x.look(1), 2);
        }
    }

    private static CountedDesk sixHosts() {
        CountedDesk x = Scenes.loose(7);
        for (int h = 0; h < 6; h++) {
            x.host(h, 2);
        }
        x.round(3);
        x.begin();
        return x;
    }

    private static void unplugTakesHostsFromTheLastOn() {
        CountedDesk x = sixHosts();
        for (int h = 5; h >= 0; h--) {
            Check.due("5 host " + h, x.unplug(h, 2), true);
            Check.due("5 hosts", x.look(1), h);
            Check.due("5 no host " + h, x.way(0, h, 0), NONE);
        }
        Check.due("5 none is left", x.unplug(0, 2), false);
        Check.due("5 the next is 0", x.host(6, 0), 0);
        Check.due("5 and then 1", x.host(0, 2), 1);
    }

    // "of a HOST only the last one that came may go, if no WANT is of it"
    private static void unplugRefusesAHostOfAWant() {
        for (int kind = 0; kind <= 4; kind++) {
            int which = kind;
            Traces.no("5 from it, kind " + kind, () -> wanted(which, 5, 0), x -> x.unplug(5, 2));
            Traces.no("5 from it to it, kind " + kind, () -> wanted(which, 5, 5), x -> x.unplug(5, 2));
        }
        int[] kinds = {0, 2, 3};
        for (int kind : kinds) {
            Traces.no("5 to it, kind " + kind, () -> wanted(kind, 0, 5), x -> x.unplug(5, 2));
        }
        Traces.no("5 of the tenth want", Scenes.FULL, x -> x.unplug(5, 2));
        CountedDesk x = wanted(0, 5, 0);
        Check.due("5 a want goes", x.unwant(0), 1);
        Check.due("5 the other is left", x.unplug(5, 2), true);
    }

    /** Six hosts, a want from a to b, one from 1 to 2, and a run. */
    private static CountedDesk wanted(int kind, int a, int b) {
        CountedDesk x = sixHosts();
        x.want(kind, 0, 0, a, b, 0);
        x.want(0, 0, 0, 1, 2, 5);
        x.round(3);
        x.begin();
        return x;
    }

    private static void unplugTakesAHostOfNoWant() {
        for (int kind = 0; kind <= 4; kind++) {
            CountedDesk x = wanted(kind, 4, 3);
            Check.due("5 host 5, kind " + kind, x.unplug(5, 2), true);
            Check.due("5 host 4, kind " + kind, x.unplug(4, 2), false);
            Check.due("5 five hosts, kind " + kind, x.look(1), 5);
            Check.due("5 the wants stay, kind " + kind, x.look(4), 2);
        }
    }
}
