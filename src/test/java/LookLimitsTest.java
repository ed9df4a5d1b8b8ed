/** Promise 11 at its limits, and the 512 calls of an object; above each test its sentence. */
public final class LookLimitsTest {
    private static final int NONE = RuleChangeDesk.NONE;

    private LookLimitsTest() {
    }

    public static void main(String[] args) {
        lookRefusesAnotherWhat();
        lookAtTheLeast();
        lookAtTheGreatest();
        goodMixturesFromTwoToAll();
        goodMixturesOfUnlikeSwitchesAlone();
        goodMixturesByEachMarkAndWant();
        wholeFromNothingToAll();
        changesUpToThe512thCall();
        runUpToThe512thCall();
        lookUpToThe512thCall();
        Check.finish();
    }

    // ---- promise 11

    // "NONE for another what."
    private static void lookRefusesAnotherWhat() {
        Traces.noneOutside("11 what, fresh", Scenes.FRESH, 0, 9, CountedDesk::look);
        Traces.noneOutside("11 what, busy", Scenes.BUSY, 0, 9, CountedDesk::look);
        Traces.none("11 what 10, full", Scenes.FULL, x -> x.look(10));
        Traces.none("11 what -1, full", Scenes.FULL, x -> x.look(-1));
    }

    // "What 0 SWITCHES, 1 HOSTS, 2 LINKS, 3 RULES of both BOOKS, 4 WANTS, 5 UNLIKE (a set as a number), 6 CLASSES,
    // 7 GOOD MIXTURES of UNLIKE SWITCHES, 8 ROUNDS of the PLAN, 9 1 if the PLAN is WHOLE, else 0."
    private static void lookAtTheLeast() {
        CountedDesk x = new CountedDesk();
        Check.dueRow("11 fresh", x::look, 1, 0, 0, 0, 0, 0, 1, 1, 0, 1);
    }

    private static void lookAtTheGreatest() {
        CountedDesk x = Scenes.FULL.get();
        Check.dueRow("11 full", x::look, 7, 6, 10, 84, 10, 127, 16);
        Check.due("11 full: rounds", x.look(8), 7);
        Check.due("11 full: whole", x.look(9), 1);
        CountedDesk y = Scenes.BUSY.get();
        Check.dueRow("11 busy", y::look, 4, 3, 4, 10, 5, 11, 3, 6, 2, 1);
    }

    private static void goodMixturesFromTwoToAll() {
        Check.due("11 all old and all new alone", Scenes.deadlock().look(7), 2);
        for (int n = 1; n <= 7; n++) {
            Check.due("11 all of " + n, Scenes.loose(n).look(7), 1 << n);
        }
        Check.due("11 a chain of seven", Scenes.chain().look(7), 8);
    }

    private static void goodMixturesOfUnlikeSwitchesAlone() {
        CountedDesk x = Scenes.loose(7);
        for (int s = 0; s < 7; s++) {
            x.copy(s, s % 2 == 0);
            Check.due("11 without the first " + (s + 1), x.look(7), 1 << (6 - s));
        }
        CountedDesk y = Scenes.wantedTriangle();
        Check.due("11 switch 2 does not count", y.look(7), 3);
        y.rule(1, 2, 15, 15, 0, 4);
        Check.due("11 now it does", y.look(7), 6);
        y.unwant(0);
        Check.due("11 without wants", y.look(7), 8);
    }

    // terms 2: "GOOD is a MIXTURE in which all KEPT ones hold."
    private static void goodMixturesByEachMarkAndWant() {
        for (int mark = 0; mark < 16; mark++) {
            CountedDesk x = Scenes.triangle();
            x.want(0, mark, 15, 0, 1, 0);
            Check.due("11 one mark, " + mark, x.look(7), 3);
        }
        for (int i = 0; i < 10; i++) {
            CountedDesk x = Scenes.triangle();
            for (int j = 0; j < 10; j++) {
                x.want(j == i ? 0 : 1, 0, 0, 0, 1, 0);
            }
            Check.due("11 want " + i + " alone", x.look(7), 3);
        }
        for (int n = 2; n <= 7; n++) {
            for (int bad = 1; bad < (1 << n) - 1; bad++) {
                CountedDesk x = Scenes.forbidding(n, new int[] {(1 << n) - 1, bad});
                Check.due("11 all of " + n + " but " + bad, x.look(7), (1 << n) - 1);
                Check.due("17 " + bad + " of " + n + " is not good", x.why(bad, 0), 0);
            }
        }
    }

    private static void wholeFromNothingToAll() {
        Check.due("11 nothing is unlike", new CountedDesk().look(9), 1);
        for (int n = 1; n <= 7; n++) {
            for (int missing = 0; missing < n; missing++) {
                CountedDesk x = Scenes.loose(n);
                Check.due("11 no round", x.look(9), 0);
                x.round((1 << n) - 1 - (1 << missing));
                Check.due("11 without " + missing, x.look(9), 0);
                x.round(1 << missing);
                Check.due("11 with it", x.look(9), 1);
            }
        }
    }

    // ---- "An object is used for at most 512 calls after it has been made"

    private static void changesUpToThe512thCall() {
        CountedDesk x = new CountedDesk();
        Check.due("512 a host", x.host(0, 0), 0);
        for (int i = 0; i < 9; i++) {
            x.want(4, 0, 0, 0, 0, 0);
        }
        while (x.callsLeft() >= 6) {
            Check.due("512 the tenth want", x.want(4, 0, 0, 0, 0, 0), 9);
            Check.due("512 an eleventh", x.want(4, 0, 0, 0, 0, 0), NONE);
            Check.due("512 it goes", x.unwant(0), 9);
            Check.due("512 a rule", x.rule(1, 0, 0, 0, 0, 0), 1);
            Check.due("512 the least plan", x.least(), 1);
            Check.due("512 the rule goes", x.strike(1, 0, 0), 0);
        }
        while (x.callsLeft() > 1) {
            x.look(4);
        }
        Check.due("512 the last call", x.net(7), true);
    }

    private static void runUpToThe512thCall() {
        CountedDesk x = Scenes.line(7);
        x.want(0, 0, 0, 0, 1, 0);
        x.round(127);
        while (x.callsLeft() > 42) {
            Check.due("512 a run", x.begin(), true);
            for (int k = 0; k < 40; k++) {
                Check.due("512 a packet", x.send(0, 0), k);
            }
        }
        while (x.callsLeft() > 1) {
            x.hop(39);
        }
        Check.due("512 the last call tells of packet 39", x.packet(39, 0), 0);
    }

    private static void lookUpToThe512thCall() {
        CountedDesk x = Scenes.BUSY.get();
        while (x.callsLeft() >= 3) {
            Check.due("512 a way", x.way(0, 0, 9), 4);
            Check.due("512 a refused way", x.way(16, 0, 9), NONE);
            Check.due("512 its end", x.on(NONE), 2);
        }
        while (x.callsLeft() > 0) {
            Check.due("512 what changed", x.run(1), 8);
        }
    }
}
