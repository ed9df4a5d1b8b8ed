import java.util.function.Supplier;

/** Promises 9, 10 and 15 to 17 at their limits; above each test its sentence. */
public final class WantLimitsTest {
    private static final int NONE = RuleChangeDesk.NONE;
    private static final int[] ODD = {Integer.MIN_VALUE, -129, -128, -2, -1, 0, 3, 4, 5, 6, 7, 31, 32, 64, 256,
        Integer.MAX_VALUE};

    private WantLimitsTest() {
    }

    public static void main(String[] args) {
        wantRefusesNoSuchKind();
        wantRefusesNoSuchSpan();
        wantRefusesNoSuchHostA();
        wantRefusesNoSuchHostB();
        wantRefusesNoSuchSwitch();
        wantTakesAnyHostBWhereItHasNone();
        wantTakesAnySwitchWhereItHasNone();
        wantRefusesTheEleventh();
        wantTakesEachAllowedNumber();
        unwantRefusesWhatThereIsNot();
        unwantMovesThoseBehind();
        unwantTakesTheLastOnes();
        holdsRefusesNoSuchWant();
        holdsRefusesNoSuchMixture();
        holdsForEachMarkOfItsSpan();
        comesAndNeverAtEachEnd();
        noRingAtEachEnd();
        pastAtEachSwitch();
        wholeOfOneMarkByOldAndAnotherByNew();
        wholeBySwitchesAndEnd();
        keptRefusesNoSuchWant();
        keptNeedsOldAndNew();
        keptIsAnewBehindEachChange();
        whyRefusesNoSuchMixture();
        whyRefusesAnotherWhat();
        whyOfAGoodMixture();
        whyTellsTheFirstKeptOne();
        whyTellsTheLeastMark();
        Check.finish();
    }

    // ---- promise 9: "NONE, and nothing is done: no such KIND, SPAN, HOST a, HOST b (of 0, 2, 3), SWITCH s (of 3),
    // or there are 10."

    private static void wantRefusesNoSuchKind() {
        Traces.noneOutside("9 kind", Scenes.BUSY, 0, 4, (x, kind) -> x.want(kind, 0, 0, 0, 1, 1));
    }

    private static void wantRefusesNoSuchSpan() {
        for (int kind = 0; kind <= 4; kind++) {
            int of = kind;
            Traces.noneOutside("9 value, kind " + kind, Scenes.BUSY, 0, 15, (x, value) -> x.want(of, value, 0, 0, 1, 1));
            Traces.noneOutside("9 bits, kind " + kind, Scenes.BUSY, 0, 15, (x, bits) -> x.want(of, 0, bits, 0, 1, 1));
        }
    }

    private static void wantRefusesNoSuchHostA() {
        for (int kind = 0; kind <= 4; kind++) {
            int of = kind;
            Traces.noneOutside("9 a, kind " + kind, Scenes.BUSY, 0, 2, (x, a) -> x.want(of, 0, 0, a, 1, 1));
            Traces.noneOutside("9 a of none, kind " + kind, Scenes.FRESH, 0, -1, (x, a) -> x.want(of, 0, 0, a, a, 0));
        }
    }

    private static void wantRefusesNoSuchHostB() {
        int[] kinds = {0, 2, 3};
        for (int kind : kinds) {
            Traces.noneOutside("9 b, kind " + kind, Scenes.BUSY, 0, 2, (x, b) -> x.want(kind, 0, 0, 1, b, 1));
        }
    }

    private static void wantRefusesNoSuchSwitch() {
        Traces.noneOutside("9 s", Scenes.BUSY, 0, 3, (x, s) -> x.want(3, 0, 0, 0, 1, s));
        for (int n = 1; n <= 7; n++) {
            int count = n;
            Traces.noneOutside("9 s of " + n, () -> Scenes.line(count), 0, n - 1, (x, s) -> x.want(3, 0, 0, 0, 1, s));
        }
    }

    // "HOST b (of 0, 2, 3)": of the others it may be any number
    private static void wantTakesAnyHostBWhereItHasNone() {
        for (int b : ODD) {
            CountedDesk x = Scenes.triangle();
            Check.due("9 no ring, b " + b, x.want(1, 0, 0, 0, b, 0), 0);
            Check.due("9 whole, b " + b, x.want(4, 0, 0, 0, b, 0), 1);
            Check.due("9 no ring holds, b " + b, x.holds(0, 2), 1);
            Check.due("9 whole does not, b " + b, x.holds(1, 2), 0);
        }
    }

    // "SWITCH s (of 3)": of the others it may be any number
    private static void wantTakesAnySwitchWhereItHasNone() {
        for (int s : ODD) {
            CountedDesk x = Scenes.triangle();
            Check.due("9 comes, s " + s, x.want(0, 0, 0, 0, 1, s), 0);
            Check.due("9 no ring, s " + s, x.want(1, 0, 0, 0, 1, s), 1);
            Check.due("9 never, s " + s, x.want(2, 0, 0, 0, 1, s), 2);
            Check.due("9 whole, s " + s, x.want(4, 0, 0, 0, 1, s), 3);
            Check.dueRow("9 by old, s " + s, i -> x.holds(i, 0), 1, 1, 0, 1);
            Check.dueRow("9 dropped, s " + s, i -> x.holds(i, 2), 0, 1, 1, 0);
        }
    }

    private static void wantRefusesTheEleventh() {
        for (int kind = 0; kind <= 4; kind++) {
            int of = kind;
            Traces.none("9 an eleventh, kind " + kind, Scenes.FULL, x -> x.want(of, 0, 0, 0, 1, 2));
            CountedDesk x = Scenes.triangle();
            for (int i = 0; i < 10; i++) {
                Check.due("9 want " + i + ", kind " + kind, x.want(kind, 0, 0, 0, 1, 2), i);
                Check.due("9 wants", x.look(4), i + 1);
            }
            Check.due("9 an eleventh", x.want(kind, 0, 0, 0, 1, 2), NONE);
            Check.due("9 one goes", x.unwant(9), 9);
            Check.due("9 there is a place again", x.want(kind, 0, 0, 0, 1, 2), 9);
            Check.due("9 but one alone", x.want(kind, 0, 0, 0, 1, 2), NONE);
            Check.due("9 ten", x.look(4), 10);
        }
    }

    private static void wantTakesEachAllowedNumber() {
        int[] greatest = {4, 15, 15, 5, 5, 1};
        for (int place = 0; place < 6; place++) {
            for (int number = 0; number <= greatest[place]; number++) {
                CountedDesk x = Scenes.sixHosts();
                int[] w = {3, 0, 0, 0, 0, 0};
                w[place] = number;
                String what = "9 number " + number + " at place " + place;
                Check.due(what, x.want(w[0], w[1], w[2], w[3], w[4], w[5]), 0);
                Check.due(what + " once more", x.want(w[0], w[1], w[2], w[3], w[4], w[5]), 1);
                Check.due(what + " in all", x.look(4), 2);
            }
        }
        for (int s = 0; s < 7; s++) {
            Check.due("9 past " + s + " of 7", Scenes.line(7).want(3, 0, 0, 0, 1, s), 0);
        }
    }

    // ---- promise 10: "how many are left; NONE if there is none such"

    private static void unwantRefusesWhatThereIsNot() {
        Traces.noneOutside("10 want of 5", Scenes.BUSY, 0, 4, CountedDesk::unwant);
        Traces.noneOutside("10 want of none", Scenes.FRESH, 0, -1, CountedDesk::unwant);
        Traces.none("10 want 10 of 10", Scenes.FULL, x -> x.unwant(10));
        Traces.none("10 want -1 of 10", Scenes.FULL, x -> x.unwant(-1));
    }

    // "WANT i goes; those behind it have numbers less by one"
    private static void unwantMovesThoseBehind() {
        for (int gone = 0; gone < 10; gone++) {
            CountedDesk x = markByMark();
            Check.due("10 want " + gone, x.unwant(gone), 9);
            Check.due("10 nine", x.look(4), 9);
            for (int i = 0; i < 9; i++) {
                int mark = i < gone ? i : i + 1;
                Check.due("10 want " + i + " without " + gone, x.holds(i, 0), mark % 3 == 0 ? 1 : 0);
                Check.due("10 kept " + i + " without " + gone, x.kept(i), mark % 3 == 0 ? 1 : 0);
            }
            Check.due("10 no want 9", x.holds(9, 0), NONE);
            Check.due("10 no want 9 is kept", x.kept(9), NONE);
        }
    }

    /** Want i is that mark i comes back to host 0, which those do that 3 divides. */
    private static CountedDesk markByMark() {
        CountedDesk x = new CountedDesk();
        x.host(0, 0);
        for (int mark = 0; mark < 16; mark += 3) {
            x.rule(0, 0, mark, 15, 0, 0);
        }
        x.copy(0, true);
        for (int mark = 0; mark < 10; mark++) {
            x.want(0, mark, 15, 0, 0, 0);
        }
        return x;
    }

    private static void unwantTakesTheLastOnes() {
        CountedDesk x = markByMark();
        for (int i = 9; i >= 0; i--) {
            Check.due("10 want " + i, x.unwant(i), i);
            Check.due("10 it goes once", x.unwant(i), NONE);
        }
        Check.due("10 none is left", x.unwant(0), NONE);
        Check.due("10 the next is 0", x.want(1, 0, 0, 0, 0, 0), 0);
    }

    // ---- promise 15: "Whether a WANT holds in a MIXTURE: 1, 0; NONE if there is none such."

    private static void holdsRefusesNoSuchWant() {
        Traces.noneOutside("15 want of 5", Scenes.BUSY, 0, 4, (x, want) -> x.holds(want, 0));
        Traces.noneOutside("15 want of none", Scenes.FRESH, 0, -1, (x, want) -> x.holds(want, 0));
        Traces.none("15 want 10 of 10", Scenes.FULL, x -> x.holds(10, 0));
    }

    private static void holdsRefusesNoSuchMixture() {
        Traces.noneOutside("15 mixture", Scenes.BUSY, 0, 15, (x, mixture) -> x.holds(0, mixture));
        for (int n = 1; n <= 7; n++) {
            int count = n;
            Supplier<CountedDesk> scene = () -> wantedLine(count);
            Traces.noneOutside("15 mixture of " + n, scene, 0, (1 << n) - 1, (x, mixture) -> x.holds(0, mixture));
            CountedDesk x = wantedLine(n);
            for (int mixture = 0; mixture < 1 << n; mixture++) {
                Check.due("15 line " + n + ", mixture " + mixture, x.holds(0, mixture), mixture == 0 ? 1 : 0);
            }
        }
    }

    private static CountedDesk wantedLine(int n) {
        CountedDesk x = Scenes.line(n);
        x.want(0, 0, 0, 0, 1, 0);
        return x;
    }

    // terms 2: "each for all MARKS of a SPAN"
    private static void holdsForEachMarkOfItsSpan() {
        for (int bad = 0; bad < 16; bad++) {
            CountedDesk x = new CountedDesk();
            x.host(0, 0);
            x.rule(0, 0, 0, 0, 0, 0);
            x.rule(0, 0, bad, 15, 9, 4);
            x.want(0, 0, 0, 0, 0, 0);
            x.want(0, bad, 15, 0, 0, 0);
            x.want(0, bad, 8, 0, 0, 0);
            x.want(0, 15 - bad, 8, 0, 0, 0);
            x.want(0, 15 - bad, 15, 0, 0, 0);
            Check.dueRow("15 mark " + bad + " is dropped, want", i -> x.holds(i, 0), 0, 0, 0, 1, 1);
        }
    }

    // "0 COMES: they COME to HOST b. .. 2 NEVER: they don't COME to HOST b."
    private static void comesAndNeverAtEachEnd() {
        for (int b = 0; b < 6; b++) {
            CountedDesk x = Scenes.sixHosts();
            int a = b / 4 * 4;
            for (int mark = 0; mark < 5; mark++) {
                x.want(0, mark, 15, a, b, 0);
                x.want(2, mark, 15, a, b, 0);
            }
            for (int mark = 0; mark < 5; mark++) {
                boolean comes = mark < 4 && a + mark == b;
                Check.due("t2 mark " + mark + " comes to " + b, x.holds(2 * mark, 0), comes ? 1 : 0);
                Check.due("t2 mark " + mark + " never comes to " + b, x.holds(2 * mark + 1, 0), comes ? 0 : 1);
            }
        }
    }

    // "1 NO RING."
    private static void noRingAtEachEnd() {
        CountedDesk x = Scenes.ring();
        x.rule(0, 6, 1, 15, 9, 4);
        x.rule(0, 6, 2, 15, 9, 2);
        x.rule(0, 0, 3, 15, 9, 2);
        for (int mark = 0; mark < 4; mark++) {
            x.want(1, mark, 15, 0, 0, 0);
        }
        Check.dueRow("t2 no ring: ring, dropped, lost, comes", i -> x.holds(i, 0), 0, 1, 1, 1);
    }

    // "3 PAST: if they COME to HOST b, SWITCH s is on their WAY."
    private static void pastAtEachSwitch() {
        CountedDesk x = Scenes.line(7);
        for (int s = 0; s < 7; s++) {
            x.want(3, 0, 0, 0, 1, s);
        }
        x.want(3, 0, 0, 1, 1, 0);
        x.want(3, 0, 0, 1, 1, 6);
        x.want(3, 0, 0, 1, 0, 3);
        Check.dueRow("t2 past each", i -> x.holds(i, 0), 1, 1, 1, 1, 1, 1, 1, 0, 1, 1);
        Check.dueRow("t2 past each, dropped at 5", i -> x.holds(i, 32), 1, 1, 1, 1, 1, 1, 1, 0, 1, 1);
        Check.dueRow("t2 past each, all new", i -> x.holds(i, 127), 1, 1, 1, 1, 1, 1, 1, 1, 1, 1);
    }

    // "4 WHOLE: their WAY, and its end, is that with all SWITCHES OLD, or that with all NEW."
    private static void wholeOfOneMarkByOldAndAnotherByNew() {
        CountedDesk x = Scenes.triangle();
        x.want(4, 0, 0, 0, 0, 0);
        x.rule(1, 1, 0, 8, 1, 1);
        Check.due("t2 whole by old, mark by mark", x.holds(0, 0), 1);
        Check.due("t2 whole by new", x.holds(0, 7), 1);
        Check.due("t2 mark 8 is dropped at 1", x.holds(0, 2), 0);
        Check.due("t2 and is the least such", x.why(2, 1), 8);
        x.rule(1, 0, 8, 8, 9, 1);
        x.rule(1, 1, 8, 8, 1, 1);
        Check.due("t2 marks from 8 as by old, the others as by new", x.holds(0, 1), 1);
    }

    private static void wholeBySwitchesAndEnd() {
        CountedDesk x = Scenes.twoLanes();
        for (int mixture = 0; mixture < 32; mixture++) {
            // By old up to where the way goes, or by new up to there.
            boolean whole = (mixture & 1) == 0 ? (mixture & 2) == 0 : (mixture & 4) != 0;
            Check.due("t2 three switches, dropped, in " + mixture, x.way(mixture, 0, 0) * 100 + x.on(NONE), 310);
            Check.due("t2 whole in " + mixture, x.holds(0, mixture), whole ? 1 : 0);
        }
        CountedDesk y = new CountedDesk();
        y.host(0, 0);
        y.host(0, 1);
        y.rule(0, 0, 0, 0, 0, 0);
        y.rule(1, 0, 0, 0, 0, 1);
        y.want(4, 0, 0, 0, 0, 0);
        Check.due("t2 one switch, one end or the other", y.holds(0, 0) + y.holds(0, 1), 2);
        CountedDesk z = Scenes.line(2);
        z.want(4, 0, 0, 0, 0, 0);
        Check.due("t2 all switches of old, another end", z.holds(0, 2), 0);
        Check.due("t2 the end of new, one switch more", z.way(2, 0, 0) * 100 + z.on(NONE), 210);
    }

    // ---- promise 16: "Whether a WANT is KEPT: 1, 0; NONE if there is none such."

    private static void keptRefusesNoSuchWant() {
        Traces.noneOutside("16 want of 5", Scenes.BUSY, 0, 4, CountedDesk::kept);
        Traces.noneOutside("16 want of none", Scenes.FRESH, 0, -1, CountedDesk::kept);
        Traces.none("16 want 10 of 10", Scenes.FULL, x -> x.kept(10));
    }

    // "KEPT is a WANT that holds with all OLD, and with all NEW."
    private static void keptNeedsOldAndNew() {
        CountedDesk x = Scenes.triangle();
        x.want(0, 0, 0, 0, 1, 0);
        x.want(3, 0, 0, 0, 1, 1);
        x.rule(0, 1, 15, 15, 9, 4);
        x.want(0, 15, 15, 0, 1, 0);
        x.want(2, 15, 15, 0, 1, 0);
        x.want(2, 0, 15, 0, 1, 0);
        x.want(0, 0, 8, 0, 1, 0);
        Check.dueRow("16 with old", i -> x.holds(i, 0), 0, 1, 0, 1, 0, 1);
        Check.dueRow("16 with new", i -> x.holds(i, 7), 1, 0, 1, 0, 0, 1);
        Check.dueRow("16 kept", x::kept, 0, 0, 0, 0, 0, 1);
        CountedDesk y = Scenes.line(7);
        y.want(1, 0, 0, 0, 0, 0);
        y.rule(1, 6, 0, 0, 0, 0);
        Check.due("16 all seven new", y.kept(0), 1);
        Check.due("16 the last alone new", y.holds(0, 64), 0);
    }

    /** What was found out ahead of a change of the net, a rule or a want is not told behind it. */
    private static void keptIsAnewBehindEachChange() {
        CountedDesk x = Scenes.wantedTriangle();
        keptAndGood("16 as it is", x, 1, 3);
        x.unplug(0, 2);
        keptAndGood("16 without a link", x, 0, 4);
        x.link(0, 2, 2, 1);
        keptAndGood("16 with it", x, 1, 3);
        x.strike(1, 0, 0);
        keptAndGood("16 without a new rule", x, 0, 4);
        x.rule(1, 0, 0, 0, 5, 2);
        keptAndGood("16 with one", x, 1, 3);
        x.rule(0, 2, 15, 15, 9, 4);
        keptAndGood("16 with an old rule more", x, 0, 8);
        x.copy(2, false);
        keptAndGood("16 with a row copied", x, 1, 3);
        x.want(2, 3, 15, 0, 1, 0);
        x.unwant(0);
        keptAndGood("16 of another want", x, 0, 4);
        x.want(1, 0, 0, 0, 0, 0);
        x.unwant(0);
        keptAndGood("16 of one more", x, 1, 4);
        x.rule(1, 1, 0, 0, 0, 0);
        keptAndGood("16 with a ring in a mixture", x, 1, 3);
        x.net(3);
        Check.due("16 in a bare net", x.kept(0), NONE);
        Check.due("16 all is good in a bare net", x.look(7), 1);
    }

    private static void keptAndGood(String what, CountedDesk x, int kept, int good) {
        Check.due(what + ": kept", x.kept(0), kept);
        Check.due(what + ": good mixtures", x.look(7), good);
        Check.due(what + ": why", x.why(2, 0), good == 3 ? 0 : NONE);
    }

    // ---- promise 17: "NONE if it is GOOD, no MIXTURE, or another what."

    private static void whyRefusesNoSuchMixture() {
        Traces.noneOutside("17 mixture, want", Scenes.BUSY, 0, 15, (x, mixture) -> x.why(mixture, 0));
        Traces.noneOutside("17 mixture, mark", Scenes.BUSY, 0, 15, (x, mixture) -> x.why(mixture, 1));
        for (int n = 2; n <= 7; n++) {
            int count = n;
            Traces.noneOutside("17 mixture of " + n, () -> whyLine(count), 0, (1 << n) - 1,
                    (x, mixture) -> x.why(mixture, 0));
            CountedDesk x = whyLine(n);
            for (int mixture = 0; mixture < 1 << n; mixture++) {
                boolean good = mixture == 0 || mixture % 2 == 1;
                Check.due("17 line " + n + ", mixture " + mixture, x.why(mixture, 0), good ? NONE : 0);
            }
        }
    }

    /** A line with the kept want that a way is whole: bad are the mixtures without 0 that have others. */
    private static CountedDesk whyLine(int n) {
        CountedDesk x = Scenes.line(n);
        x.want(4, 0, 0, 0, 0, 0);
        return x;
    }

    private static void whyRefusesAnotherWhat() {
        Traces.noneOutside("17 what", Scenes.BUSY, 0, 1, (x, what) -> x.why(2, what));
        CountedDesk x = Scenes.BUSY.get();
        Check.due("17 what 0", x.why(2, 0), 0);
        Check.due("17 what 1", x.why(2, 1), 0);
    }

    private static void whyOfAGoodMixture() {
        CountedDesk x = Scenes.wantedTriangle();
        for (int mixture = 0; mixture < 8; mixture++) {
            boolean good = (mixture & 3) != 2;
            Check.due("17 want of " + mixture, x.why(mixture, 0), good ? NONE : 0);
            Check.due("17 mark of " + mixture, x.why(mixture, 1), good ? NONE : 0);
        }
        CountedDesk y = Scenes.triangle();
        for (int mixture = 0; mixture < 8; mixture++) {
            Check.due("17 without wants, " + mixture, y.why(mixture, 0), NONE);
            Check.due("17 without wants, mark of " + mixture, y.why(mixture, 1), NONE);
        }
    }

    // "what 0: the first KEPT WANT that does not hold in it"
    private static void whyTellsTheFirstKeptOne() {
        for (int first = 0; first < 10; first++) {
            CountedDesk x = Scenes.triangle();
            for (int i = 0; i < 10; i++) {
                if (i < first) {
                    // One that is not kept, and one that is and holds: neither counts.
                    x.want(i % 2 == 0 ? 3 : 1, 0, 0, 0, 1, 1);
                } else {
                    x.want(0, 15 - i, 15, 0, 1, 0);
                }
            }
            Check.due("17 the first is " + first, x.why(2, 0), first);
            Check.due("17 its mark", x.why(2, 1), 15 - first);
            Check.due("17 one that is not kept", x.why(1, 0), NONE);
        }
    }

    // "1: the least MARK for which that does not"
    private static void whyTellsTheLeastMark() {
        for (int mark = 0; mark < 16; mark++) {
            CountedDesk x = Scenes.triangle();
            x.want(0, mark, 15, 0, 1, 0);
            x.want(0, 0, 0, 0, 1, 0);
            Check.due("17 mark " + mark + " of the first, not of the second", x.why(2, 1), mark);
            CountedDesk y = Scenes.triangle();
            y.want(0, 0, 0, 0, 1, 0);
            y.rule(1, 1, 0, 0, 1, 1);
            y.rule(1, 1, mark, 15, 2, 4);
            y.rule(1, 1, 15, 15, 2, 4);
            Check.due("17 the least of two, " + mark, y.why(2, 1), mark);
        }
    }
}
