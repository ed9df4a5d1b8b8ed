import java.util.function.Supplier;

/** Promises 25 to 31 at their limits; above each test its sentence. */
public final class RunLimitsTest {
    private static final int NONE = RuleChangeDesk.NONE;

    private RunLimitsTest() {
    }

    public static void main(String[] args) {
        beginRefusesAPlanWithoutRounds();
        beginTakesAnyPlanWithARound();
        beginEndsTheRunThatGoes();
        sendRefusesWithoutARun();
        sendRefusesNoSuchHost();
        sendRefusesNoSuchMark();
        sendRefusesTheFortyFirst();
        sendTakesEachHostAndMark();
        sendBehindTheLastRound();
        hopRefusesWithoutARun();
        hopRefusesNoSuchPacket();
        hopRefusesWhatHasEnded();
        hopTellsEachEnd();
        hopTellsEachSwitch();
        hopEndsInARing();
        hopMovesOnePacketAlone();
        hopGoesByTheRulesOfNow();
        changeRefusesWithoutARun();
        changeRefusesNoSuchSwitch();
        changeRefusesOtherRounds();
        changeRefusesASecondTime();
        changeRefusesWhenAllIsDone();
        changeTellsHowManyAreLeft();
        nextRefusesWithoutARun();
        nextRefusesWhileSomeAreLeft();
        nextRefusesWhileAPacketIsUnderWay();
        nextRefusesWhenAllIsDone();
        nextTellsEachNumber();
        runRefusesWithoutARun();
        runRefusesAnotherWhat();
        runFromNothingToAll();
        brokenFromNoneToAll();
        brokenOnceAPacketHasEnded();
        brokenWholeByItsOwnMark();
        brokenWholeByItsOwnWay();
        packetRefusesWithoutARun();
        packetRefusesNoSuchPacket();
        packetRefusesAnotherWhat();
        packetTellsEachOfForty();
        packetTellsEachSwitch();
        packetUnderWayAndEnded();
        Check.finish();
    }

    /** The six hosts' desk with a run. */
    private static CountedDesk sixHosts() {
        CountedDesk x = Scenes.sixHosts();
        x.round(1);
        x.begin();
        return x;
    }

    /** A line of switches with a run of as many rounds, from the last switch on. */
    private static CountedDesk line(int n) {
        CountedDesk x = Scenes.line(n);
        for (int s = n - 1; s >= 0; s--) {
            x.round(1 << s);
        }
        x.begin();
        return x;
    }

    /** So many loose switches with a run of one round. */
    private static CountedDesk loose(int n) {
        CountedDesk x = Scenes.loose(n);
        x.round((1 << n) - 1);
        x.begin();
        return x;
    }

    // ---- promise 25

    // "false, and nothing is done, if the PLAN has no ROUND"
    private static void beginRefusesAPlanWithoutRounds() {
        Traces.no("25 fresh", Scenes.FRESH, CountedDesk::begin);
        Traces.no("25 no plan", Scenes::wantedTriangle, CountedDesk::begin);
        Traces.no("25 no plan any more", RunLimitsTest::emptied, CountedDesk::begin);
        CountedDesk x = new CountedDesk();
        Check.due("25 a whole plan without rounds", x.least() * 10 + x.look(9), 1);
        Check.due("25 is no plan to begin", x.begin(), false);
    }

    private static CountedDesk emptied() {
        CountedDesk x = Scenes.BUSY.get();
        x.empty();
        return x;
    }

    // "A run begins (..): true"
    private static void beginTakesAnyPlanWithARound() {
        CountedDesk x = Scenes.loose(7);
        x.round(64);
        Check.due("25 one round, not whole", x.begin(), true);
        Check.dueRow("25 it has begun", x::run, 0, 0, 0, 0, 0);
        CountedDesk y = Scenes.deadlock();
        y.round(1);
        Check.due("25 a round that is not taken", y.mid(0), 1);
        Check.due("25 begins too", y.begin(), true);
        Check.due("25 seven rounds", Scenes.FULL.get().begin(), true);
    }

    // "(one that goes ends)"
    private static void beginEndsTheRunThatGoes() {
        begunAnew("25 busy", Scenes.BUSY.get(), 2);
        begunAnew("25 done", Scenes.DONE.get(), 2);
        begunAnew("25 full", Scenes.FULL.get(), 7);
        CountedDesk x = Scenes.DONE.get();
        x.begin();
        Check.due("25 round 0 is at hand again", x.change(0), 1);
        Check.due("25 round 1 is not", x.change(1), NONE);
        Check.due("25 all were old again", x.run(1), 1);
        CountedDesk y = Scenes.wantedTriangle();
        y.round(2);
        y.begin();
        y.change(1);
        y.send(0, 0);
        y.hop(0);
        y.hop(0);
        Check.due("25 a want was broken", y.run(4), 1);
        y.begin();
        Check.due("25 none is now", y.run(4), 0);
        y.send(0, 0);
        y.hop(0);
        Check.due("25 switch 1 is old again", y.hop(0), 2);
    }

    private static void begunAnew(String what, CountedDesk x, int rounds) {
        Check.due(what + " begins anew", x.begin(), true);
        Check.dueRow(what + " run", x::run, 0, 0, 0, 0, 0);
        Check.due(what + " no packet 0", x.packet(0, 0), NONE);
        Check.due(what + " no packet 1", x.hop(1), NONE);
        Check.due(what + " the plan stays", x.look(8), rounds);
        Check.due(what + " packets from 0 on", x.send(0, 0), 0);
        Check.due(what + " then 1", x.send(1, 15), 1);
    }

    // ---- promise 26: "NONE, and nothing is done: no run, no such HOST or MARK, or 40 were put in."

    private static void sendRefusesWithoutARun() {
        Traces.none("26 fresh", Scenes.FRESH, x -> x.send(0, 0));
        Traces.none("26 a plan alone", Scenes.PLANNED, x -> x.send(0, 0));
        Traces.none("26 the run has ended", RunLimitsTest::emptied, x -> x.send(0, 0));
    }

    private static void sendRefusesNoSuchHost() {
        Traces.noneOutside("26 host of 3", Scenes.BUSY, 0, 2, (x, host) -> x.send(host, 0));
        Traces.noneOutside("26 host of 6", RunLimitsTest::sixHosts, 0, 5, (x, host) -> x.send(host, 0));
        Traces.noneOutside("26 host of none", () -> loose(3), 0, -1, (x, host) -> x.send(host, 0));
    }

    private static void sendRefusesNoSuchMark() {
        Traces.noneOutside("26 mark", Scenes.BUSY, 0, 15, (x, mark) -> x.send(0, mark));
    }

    private static void sendRefusesTheFortyFirst() {
        Traces.none("26 a 41st", Scenes.FULL, x -> x.send(0, 0));
        CountedDesk x = sixHosts();
        for (int k = 0; k < 40; k++) {
            Check.due("26 packet " + k, x.send(k % 6, k % 16), k);
            Check.due("26 put in", x.run(2), k + 1);
        }
        Check.due("26 a 41st", x.send(0, 0), NONE);
        for (int k = 0; k < 40; k++) {
            x.hop(k);
        }
        Check.due("26 all have ended", x.run(3), 0);
        Check.due("26 still 40 were put in", x.send(0, 0), NONE);
        Check.due("26 forty", x.run(2), 40);
        x.change(0);
        x.next();
        Check.due("26 in no round any more", x.send(0, 0), NONE);
        x.begin();
        Check.due("26 a new run has room", x.send(0, 0), 0);
    }

    private static void sendTakesEachHostAndMark() {
        for (int host = 0; host < 6; host++) {
            CountedDesk x = sixHosts();
            for (int mark = 0; mark < 16; mark++) {
                Check.due("26 host " + host + ", mark " + mark, x.send(host, mark), mark);
                Check.due("26 its host", x.packet(mark, 0), host);
                Check.due("26 its mark", x.packet(mark, 1), mark);
                Check.due("26 is at its switch", x.packet(mark, 2), host / 4);
                Check.due("26 has come to one", x.packet(mark, 4), 1);
            }
        }
    }

    // the run goes on when all rounds are done
    private static void sendBehindTheLastRound() {
        CountedDesk x = Scenes.DONE.get();
        Check.due("26 all rounds are done", x.next(), NONE);
        Check.due("26 a packet all the same", x.send(0, 0), 2);
        Check.due("26 it hops by new", x.hop(2), 2);
    }

    // ---- promise 27: "NONE, and nothing is done: no run, none such, or it has ended."

    private static void hopRefusesWithoutARun() {
        Traces.none("27 fresh", Scenes.FRESH, x -> x.hop(0));
        Traces.none("27 a plan alone", Scenes.PLANNED, x -> x.hop(0));
        Traces.none("27 the run has ended", RunLimitsTest::emptied, x -> x.hop(0));
    }

    private static void hopRefusesNoSuchPacket() {
        Traces.noneOutside("27 packet of 3", Scenes.BUSY, 0, 2, CountedDesk::hop);
        Traces.noneOutside("27 packet of none", () -> loose(3), 0, -1, CountedDesk::hop);
        Traces.none("27 packet 40 of 40", Scenes.FULL, x -> x.hop(40));
        Traces.none("27 packet -1 of 40", Scenes.FULL, x -> x.hop(-1));
        CountedDesk x = Scenes.FULL.get();
        x.begin();
        Check.due("27 a packet of an earlier run", x.hop(0), NONE);
    }

    private static void hopRefusesWhatHasEnded() {
        Traces.none("27 ended at a host", Scenes.BUSY, x -> x.hop(1));
        int[] marks = {0, 4, 3};
        for (int mark : marks) {
            Supplier<CountedDesk> ended = () -> {
                CountedDesk x = sixHosts();
                x.send(5, mark);
                x.hop(0);
                return x;
            };
            Traces.none("27 ended, mark " + mark, ended, x -> x.hop(0));
        }
        Supplier<CountedDesk> ring = () -> {
            CountedDesk x = Scenes.ring();
            x.round(1);
            x.begin();
            x.send(0, 0);
            for (int i = 0; i < 7; i++) {
                x.hop(0);
            }
            return x;
        };
        Traces.none("27 ended as a ring", ring, x -> x.hop(0));
    }

    // "or 100 and its end (as in on())"
    private static void hopTellsEachEnd() {
        CountedDesk x = sixHosts();
        for (int h = 0; h < 6; h++) {
            x.send(h / 4 * 4, h % 4);
            Check.due("27 comes to host " + h, x.hop(h), 100 + h);
        }
        x.send(5, 1);
        Check.due("27 comes to the host that it is from", x.hop(6), 105);
        x.send(5, 4);
        Check.due("27 dropped", x.hop(7), 110);
        x.send(5, 3);
        Check.due("27 lost", x.hop(8), 111);
    }

    // "the SWITCH that it is AT now"
    private static void hopTellsEachSwitch() {
        for (int n = 1; n <= 7; n++) {
            CountedDesk x = line(n);
            x.send(0, 15);
            for (int s = 1; s < n; s++) {
                Check.due("27 line " + n + ", to " + s, x.hop(0), s);
            }
            Check.due("27 line " + n + ", to host 1", x.hop(0), 101);
            Check.due("27 line " + n + ", no more", x.hop(0), NONE);
            Check.due("27 line " + n + ", switches", x.packet(0, 4), n);
        }
    }

    // terms 3: "or, if it was there already, it ends as a RING"
    private static void hopEndsInARing() {
        CountedDesk x = Scenes.ring();
        x.want(1, 0, 0, 0, 0, 0);
        x.round(127);
        x.begin();
        x.send(0, 0);
        for (int s = 1; s < 7; s++) {
            Check.due("27 to " + s, x.hop(0), s);
            Check.due("27 is under way", x.run(3), 1);
        }
        Check.due("27 a ring of seven", x.hop(0), 112);
        Check.due("27 none is under way", x.run(3), 0);
        Check.due("27 its end", x.packet(0, 3), 12);
        Check.due("27 seven switches", x.packet(0, 4), 7);
        Check.due("27 the seventh", x.packet(0, 106), 6);
        Check.due("27 no eighth", x.packet(0, 107), NONE);
        CountedDesk y = Scenes.line(2);
        y.rule(1, 1, 0, 0, 0, 0);
        y.round(2);
        y.begin();
        y.change(1);
        y.send(0, 0);
        Check.due("27 to 1", y.hop(0), 1);
        Check.due("27 back at once", y.hop(0), 112);
    }

    private static void hopMovesOnePacketAlone() {
        CountedDesk x = line(7);
        for (int k = 0; k < 40; k++) {
            x.send(0, k % 16);
        }
        Check.due("27 packet 39", x.hop(39), 1);
        Check.due("27 once more", x.hop(39), 2);
        Check.due("27 packet 0", x.hop(0), 1);
        for (int k = 0; k < 40; k++) {
            Check.due("27 packet " + k + " is at", x.packet(k, 2), k == 39 ? 2 : k == 0 ? 1 : 0);
        }
        Check.due("27 all are under way", x.run(3), 40);
    }

    // terms 3: "the SWITCH that it is at sends it on by the rules that it has now"
    private static void hopGoesByTheRulesOfNow() {
        for (int at = 0; at < 7; at++) {
            CountedDesk x = Scenes.line(7);
            x.round(127);
            x.begin();
            x.send(0, 0);
            for (int s = 0; s < at; s++) {
                x.hop(0);
                // Those behind it change too late for this packet.
                x.change(s);
            }
            x.change(at);
            Check.due("27 dropped at " + at, x.hop(0), 110);
            Check.due("27 switches up to " + at, x.packet(0, 4), at + 1);
        }
    }

    // ---- promise 28: "NONE, and nothing is done: no run, it is not of the ROUND at hand, or has CHANGED."

    private static void changeRefusesWithoutARun() {
        for (int s = 0; s < 4; s++) {
            int of = s;
            Traces.none("28 fresh, " + s, Scenes.FRESH, x -> x.change(of));
            Traces.none("28 a plan alone, " + s, Scenes.PLANNED, x -> x.change(of));
            Traces.none("28 the run has ended, " + s, RunLimitsTest::emptied, x -> x.change(of));
        }
    }

    private static void changeRefusesNoSuchSwitch() {
        Traces.noneOutside("28 switch", Scenes.BUSY, 0, 3, CountedDesk::change);
        for (int n = 1; n <= 7; n++) {
            int count = n;
            Traces.noneOutside("28 switch of " + n, () -> loose(count), 0, n - 1, CountedDesk::change);
        }
    }

    private static void changeRefusesOtherRounds() {
        Traces.none("28 of the next round", Scenes.BUSY, x -> x.change(1));
        Traces.none("28 of no round", Scenes.BUSY, x -> x.change(2));
        for (int s = 1; s < 7; s++) {
            int of = s;
            Traces.none("28 of a later round, " + s, Scenes.FULL, x -> x.change(of));
        }
        Supplier<CountedDesk> second = () -> {
            CountedDesk x = Scenes.loose(4);
            x.round(5);
            x.round(2);
            x.round(8);
            x.begin();
            x.change(2);
            x.change(0);
            x.next();
            return x;
        };
        Traces.none("28 of the round before", second, x -> x.change(0));
        Traces.none("28 of the round before, too", second, x -> x.change(2));
        Traces.none("28 of the round behind", second, x -> x.change(3));
        Check.due("28 of the round at hand", second.get().change(1), 0);
    }

    private static void changeRefusesASecondTime() {
        Traces.none("28 has changed", Scenes.BUSY, x -> x.change(3));
        CountedDesk x = loose(7);
        for (int s = 0; s < 7; s++) {
            x.change(s);
            for (int t = 0; t <= s; t++) {
                Check.due("28 has changed, " + t, x.change(t), NONE);
            }
        }
        Check.due("28 all seven", x.run(1), 127);
    }

    private static void changeRefusesWhenAllIsDone() {
        for (int s = 0; s < 4; s++) {
            int of = s;
            Traces.none("28 all rounds are done, " + s, Scenes.DONE, x -> x.change(of));
        }
    }

    // "how many of the ROUND at hand are left"
    private static void changeTellsHowManyAreLeft() {
        for (int n = 1; n <= 7; n++) {
            CountedDesk x = loose(n);
            for (int s = n - 1; s >= 0; s--) {
                Check.due("28 left of " + n + " behind " + s, x.change(s), s);
                Check.due("28 changed", x.run(1), (1 << n) - (1 << s));
            }
        }
        CountedDesk y = Scenes.loose(7);
        y.round(1);
        y.round(126);
        y.begin();
        Check.due("28 of the first round none is left", y.change(0), 0);
        y.next();
        Check.due("28 of the second five are", y.change(6), 5);
    }

    // ---- promise 29: "NONE, and nothing is done: no run, it can't, or all ROUNDS are done."

    private static void nextRefusesWithoutARun() {
        Traces.none("29 fresh", Scenes.FRESH, CountedDesk::next);
        Traces.none("29 a plan alone", Scenes.PLANNED, CountedDesk::next);
        Traces.none("29 the run has ended", RunLimitsTest::emptied, CountedDesk::next);
    }

    // terms 3: "all of the one at hand have CHANGED"
    private static void nextRefusesWhileSomeAreLeft() {
        for (int left = 0; left < 7; left++) {
            int last = left;
            Traces.none("29 none has changed", () -> loose(last + 1), CountedDesk::next);
            Supplier<CountedDesk> allButOne = () -> {
                CountedDesk x = loose(7);
                for (int s = 0; s < 7; s++) {
                    if (s != last) {
                        x.change(s);
                    }
                }
                return x;
            };
            Traces.none("29 but for " + left, allButOne, CountedDesk::next);
            CountedDesk x = allButOne.get();
            x.change(left);
            Check.due("29 with " + left, x.next(), 1);
        }
    }

    // terms 3: "and no packet is under way"
    private static void nextRefusesWhileAPacketIsUnderWay() {
        for (int last = 0; last < 40; last += 13) {
            int late = last;
            Supplier<CountedDesk> allButOne = () -> {
                CountedDesk x = sixHosts();
                for (int k = 0; k < 40; k++) {
                    x.send(k % 6, k % 16);
                    if (k != late) {
                        x.hop(k);
                    }
                }
                x.change(0);
                return x;
            };
            Traces.none("29 packet " + last + " is under way", allButOne, CountedDesk::next);
            CountedDesk x = allButOne.get();
            x.hop(last);
            Check.due("29 it has ended", x.next(), 1);
        }
        CountedDesk x = line(2);
        x.send(0, 0);
        x.change(1);
        Check.due("29 under way at 0", x.next(), NONE);
        x.hop(0);
        Check.due("29 under way at 1", x.next(), NONE);
        x.hop(0);
        Check.due("29 none is under way", x.next(), 1);
    }

    private static void nextRefusesWhenAllIsDone() {
        Traces.none("29 done, a packet under way", Scenes.DONE, CountedDesk::next);
        Supplier<CountedDesk> done = () -> {
            CountedDesk x = loose(7);
            for (int s = 0; s < 7; s++) {
                x.change(s);
            }
            x.next();
            return x;
        };
        Traces.none("29 done", done, CountedDesk::next);
        CountedDesk x = done.get();
        for (int i = 0; i < 8; i++) {
            Check.due("29 all rounds are done", x.next(), NONE);
            Check.due("29 behind the last one", x.run(0), 1);
        }
    }

    // "The next ROUND begins: its number (that of ROUNDS behind the last one)."
    private static void nextTellsEachNumber() {
        for (int n = 1; n <= 7; n++) {
            CountedDesk x = line(n);
            for (int i = 1; i <= n; i++) {
                Check.due("29 round at hand of " + n, x.run(0), i - 1);
                Check.due("29 not yet", x.next(), NONE);
                x.change(n - i);
                Check.due("29 next of " + n, x.next(), i);
            }
            Check.due("29 as many as rounds", x.run(0), n);
            Check.due("29 no more", x.next(), NONE);
        }
    }

    // ---- promise 30: "NONE without a run, or for another what."

    private static void runRefusesWithoutARun() {
        for (int what = 0; what <= 4; what++) {
            int of = what;
            Traces.none("30 fresh, " + what, Scenes.FRESH, x -> x.run(of));
            Traces.none("30 a plan alone, " + what, Scenes.PLANNED, x -> x.run(of));
            Traces.none("30 the run has ended, " + what, RunLimitsTest::emptied, x -> x.run(of));
        }
    }

    private static void runRefusesAnotherWhat() {
        Traces.noneOutside("30 what", Scenes.BUSY, 0, 4, CountedDesk::run);
        Traces.noneOutside("30 what, done", Scenes.DONE, 0, 4, CountedDesk::run);
    }

    // "what 0 the ROUND at hand, 1 the set that has CHANGED, 2 packets put in, 3 those under way"
    private static void runFromNothingToAll() {
        CountedDesk x = line(7);
        Check.dueRow("30 nothing yet", x::run, 0, 0, 0, 0, 0);
        for (int s = 6; s >= 0; s--) {
            x.change(s);
            Check.due("30 changed", x.run(1), 128 - (1 << s));
            x.next();
            Check.due("30 round", x.run(0), 7 - s);
        }
        for (int k = 0; k < 40; k++) {
            x.send(1, 0);
            Check.due("30 put in", x.run(2), k + 1);
            Check.due("30 under way", x.run(3), k + 1);
        }
        for (int k = 39; k >= 0; k--) {
            x.hop(k);
            Check.due("30 under way still", x.run(3), k);
        }
        Check.dueRow("30 all", x::run, 7, 127, 40, 0, 0);
    }

    // "4 how many KEPT WANTS were BROKEN (each packet and WANT counts)"
    private static void brokenFromNoneToAll() {
        CountedDesk x = Scenes.triangle();
        for (int i = 0; i < 10; i++) {
            x.want(0, 0, 0, 0, 1, 0);
        }
        x.round(2);
        x.begin();
        for (int k = 0; k < 40; k++) {
            x.send(0, k % 16);
            x.hop(k);
        }
        x.change(1);
        for (int k = 0; k < 40; k++) {
            Check.due("30 broken ahead of packet " + k, x.run(4), 10 * k);
            Check.due("30 dropped", x.hop(k), 110);
        }
        Check.due("30 each packet and each want", x.run(4), 400);
        x.hop(0);
        Check.due("30 each once", x.run(4), 400);
    }

    // terms 3: "BREAKS a KEPT WANT, if its MARK and HOST are of it and its WAY and end are not as wanted"
    private static void brokenOnceAPacketHasEnded() {
        CountedDesk x = Scenes.triangle();
        x.want(0, 7, 15, 0, 1, 0);
        x.want(0, 8, 8, 0, 1, 0);
        x.want(3, 0, 0, 0, 1, 1);
        x.want(1, 0, 0, 0, 0, 0);
        x.want(0, 0, 0, 1, 1, 0);
        x.want(2, 0, 0, 0, 0, 0);
        x.round(2);
        x.begin();
        x.change(1);
        int[] marks = {6, 7, 8, 15, 0};
        int[] due = {0, 1, 2, 3, 3};
        for (int k = 0; k < 5; k++) {
            x.send(0, marks[k]);
            x.hop(k);
            Check.due("30 not while mark " + marks[k] + " is under way", x.run(4), k == 0 ? 0 : due[k - 1]);
            x.hop(k);
            Check.due("30 mark " + marks[k], x.run(4), due[k]);
        }
        x.send(1, 7);
        x.hop(5);
        Check.due("30 from another host", x.run(4), 3);
    }

    private static void brokenWholeByItsOwnMark() {
        CountedDesk x = Scenes.sixHosts();
        x.want(4, 0, 0, 0, 0, 0);
        x.want(4, 0, 0, 5, 0, 0);
        x.round(3);
        x.begin();
        int put = 0;
        for (int mark = 0; mark < 16; mark++) {
            x.send(0, mark);
            x.send(5, mark);
            x.hop(put++);
            x.hop(put++);
            Check.due("30 by old, mark " + mark, x.run(4), 0);
        }
        x.change(0);
        x.send(0, 0);
        Check.due("30 by new", x.hop(put), 110);
        Check.due("30 whole by new", x.run(4), 0);
    }

    /** Three switches, dropped: so long and so ended are the ways of both books and those of neither. */
    private static void brokenWholeByItsOwnWay() {
        // A digit is a switch that changes, h a hop of the packet.
        String[] acts = {"hhh", "0hhh", "1hhh", "02hhh", "h0hh", "h1hh", "0h2hh", "0hh2h"};
        int[] due = {0, 1, 1, 0, 0, 1, 0, 1};
        for (int i = 0; i < acts.length; i++) {
            CountedDesk x = Scenes.twoLanes();
            x.round(7);
            x.begin();
            x.send(0, 0);
            for (char act : acts[i].toCharArray()) {
                if (act == 'h') {
                    x.hop(0);
                } else {
                    x.change(act - '0');
                }
            }
            Check.due("30 dropped, " + acts[i], x.packet(0, 3), 10);
            Check.due("30 three switches, " + acts[i], x.packet(0, 4), 3);
            Check.due("30 broken, " + acts[i], x.run(4), due[i]);
        }
    }

    // ---- promise 31: "NONE if there is none such, or another what."

    private static void packetRefusesWithoutARun() {
        int[] whats = {0, 1, 2, 3, 4, 100};
        for (int what : whats) {
            Traces.none("31 fresh, " + what, Scenes.FRESH, x -> x.packet(0, what));
            Traces.none("31 a plan alone, " + what, Scenes.PLANNED, x -> x.packet(0, what));
            Traces.none("31 the run has ended, " + what, RunLimitsTest::emptied, x -> x.packet(0, what));
        }
    }

    private static void packetRefusesNoSuchPacket() {
        int[] whats = {0, 1, 2, 3, 4, 100};
        for (int what : whats) {
            Traces.noneOutside("31 packet of 3, what " + what, Scenes.BUSY, 0, 2, (x, k) -> x.packet(k, what));
            Traces.noneOutside("31 packet of none, what " + what, () -> loose(3), 0, -1, (x, k) -> x.packet(k, what));
            Traces.none("31 packet 40 of 40", Scenes.FULL, x -> x.packet(40, what));
        }
        CountedDesk x = Scenes.FULL.get();
        x.begin();
        x.send(0, 0);
        Check.due("31 packet 1 of an earlier run", x.packet(1, 0), NONE);
        Check.due("31 packet 39 of an earlier run", x.packet(39, 0), NONE);
    }

    private static void packetRefusesAnotherWhat() {
        for (int what : Traces.outside(0, 4)) {
            if (what != 100 && what != 101) {
                Traces.none("31 what " + what, Scenes.BUSY, x -> x.packet(0, what));
            }
        }
        int[] whats = {5, 50, 99, 102, 103, 106, 107, 139, 200, 100 + (1 << 30), Integer.MIN_VALUE + 99,
            Integer.MIN_VALUE + 100};
        for (int what : whats) {
            Traces.none("31 what " + what, Scenes.BUSY, x -> x.packet(0, what));
        }
    }

    private static void packetTellsEachOfForty() {
        CountedDesk x = Scenes.FULL.get();
        for (int k = 0; k < 40; k++) {
            Check.due("31 host of " + k, x.packet(k, 0), k % 6);
            Check.due("31 mark of " + k, x.packet(k, 1), k % 16);
            Check.due("31 switch of " + k, x.packet(k, 2), k % 6);
            Check.due("31 end of " + k, x.packet(k, 3), NONE);
        }
    }

    // "4 how many SWITCHES it came to, 100 + i the i-th of these"
    private static void packetTellsEachSwitch() {
        CountedDesk x = line(7);
        x.send(0, 0);
        for (int at = 0; at < 7; at++) {
            Check.due("31 came to", x.packet(0, 4), at + 1);
            for (int i = 0; i < 7; i++) {
                Check.due("31 switch " + i + " at " + at, x.packet(0, 100 + i), i <= at ? i : NONE);
            }
            Check.due("31 no eighth at " + at, x.packet(0, 107), NONE);
            Check.due("31 what 99 at " + at, x.packet(0, 99), NONE);
            Check.due("31 is at", x.packet(0, 2), at);
            Check.due("31 no end yet", x.packet(0, 3), NONE);
            x.hop(0);
        }
        Check.due("31 seven", x.packet(0, 4), 7);
        Check.due("31 its end", x.packet(0, 3), 1);
        Check.due("31 the seventh", x.packet(0, 106), 6);
        x.begin();
        x.send(1, 0);
        Check.due("31 what an earlier run's packet had", x.packet(0, 101), NONE);
        Check.due("31 the only one", x.packet(0, 100), 6);
    }

    // "2 the SWITCH it is AT (NONE if it has ended), 3 its end (NONE while under way)"
    private static void packetUnderWayAndEnded() {
        CountedDesk x = sixHosts();
        int[] from = {0, 0, 4, 4, 4, 4};
        int[] marks = {0, 3, 1, 4, 15, 3};
        int[] ends = {0, 3, 5, 10, 10, 11};
        for (int k = 0; k < 6; k++) {
            x.send(from[k], marks[k]);
            Check.due("31 at, under way", x.packet(k, 2), from[k] / 4);
            Check.due("31 end, under way", x.packet(k, 3), NONE);
            x.hop(k);
            Check.due("31 at, ended", x.packet(k, 2), NONE);
            Check.due("31 end, ended", x.packet(k, 3), ends[k]);
            Check.due("31 host, ended", x.packet(k, 0), from[k]);
            Check.due("31 mark, ended", x.packet(k, 1), marks[k]);
            Check.due("31 switches, ended", x.packet(k, 4), 1);
            Check.due("31 the switch, ended", x.packet(k, 100), from[k] / 4);
        }
    }
}
