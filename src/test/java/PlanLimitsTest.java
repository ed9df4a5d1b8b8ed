import java.util.function.Supplier;

/** Promises 18 to 24 at their limits; above each test its sentence. */
public final class PlanLimitsTest {
    private static final int NONE = RuleChangeDesk.NONE;

    private PlanLimitsTest() {
    }

    public static void main(String[] args) {
        leastOfNothingUnlike();
        leastOfOneToSevenRounds();
        leastOfAllAtOnce();
        leastRefusesWhereThereIsNone();
        leastOfSeveralHasTheLeastFirstRound();
        leastOfSeveralHasTheLeastSecondRound();
        leastIsNotTheGreatestFirstRound();
        leastMakesThePlanAnew();
        fewerAndFewerUnlike();
        ordersFromNoneToAll();
        orderRefusesNoSuchOne();
        orderRefusesWhereThereIsNone();
        orderOfNothingUnlike();
        ordersFirstAndLast();
        eachOrderIsAnother();
        leastAndOrderEndTheRun();
        refusedLeastAndOrderLeaveTheRun();
        roundRefusesTheEmptySet();
        roundRefusesWhatIsNotUnlike();
        roundRefusesWhatIsInARound();
        roundTakesEachSet();
        roundTakesTheSeventh();
        roundEndsTheRun();
        emptyOfWhatIsEmpty();
        emptyEndsTheRun();
        planRefusesNoSuchRound();
        planTellsEachRound();
        midRefusesNoSuchRound();
        midOfATakenRound();
        midWithNoneOfItsOwn();
        midWithAllOfItsOwn();
        midTellsTheLeast();
        changesEmptyThePlanAndEndTheRun();
        Check.finish();
    }

    private static void planIs(String what, CountedDesk x, int... rounds) {
        Check.due(what + ": rounds", x.look(8), rounds.length);
        for (int i = 0; i < rounds.length; i++) {
            Check.due(what + ": round " + i, x.plan(i), rounds[i]);
        }
        Check.due(what + ": no more", x.plan(rounds.length), NONE);
    }

    // ---- promise 18: "The PLAN becomes the one with the fewest ROUNDS that is WHOLE, all of them TAKEN"

    private static void leastOfNothingUnlike() {
        CountedDesk fresh = new CountedDesk();
        Check.due("18 fresh", fresh.least(), 0);
        planIs("18 fresh", fresh);
        Check.due("18 fresh is whole", fresh.look(9), 1);
        CountedDesk x = Scenes.wantedTriangle();
        x.copy(0, true);
        x.copy(1, true);
        Check.due("18 all alike", x.least(), 0);
        planIs("18 all alike", x);
        Check.due("18 no run of no rounds", x.begin(), false);
    }

    private static void leastOfOneToSevenRounds() {
        for (int alike = 0; alike <= 6; alike++) {
            CountedDesk x = Scenes.chain();
            for (int s = 0; s < alike; s++) {
                x.copy(s, true);
            }
            Check.due("18 rounds without the first " + alike, x.least(), 7 - alike);
            for (int i = 0; i < 7 - alike; i++) {
                Check.due("18 round " + i + " of " + (7 - alike), x.plan(i), 1 << (6 - i));
                Check.due("18 is taken", x.mid(i), NONE);
            }
            Check.due("18 is whole", x.look(9), 1);
        }
    }

    private static void leastOfAllAtOnce() {
        for (int n = 1; n <= 7; n++) {
            CountedDesk x = Scenes.loose(n);
            Check.due("18 all of " + n, x.least(), 1);
            planIs("18 all of " + n, x, (1 << n) - 1);
            CountedDesk y = Scenes.loose(n);
            y.copy(n - 1, true);
            Check.due("18 all but the last of " + n, y.least(), n == 1 ? 0 : 1);
            Check.due("18 they are", y.plan(0), n == 1 ? NONE : (1 << (n - 1)) - 1);
        }
    }

    // "NONE, and the PLAN stays, if there is none."
    private static void leastRefusesWhereThereIsNone() {
        Traces.none("18 none, no plan", Scenes::deadlock, CountedDesk::least);
        Traces.none("18 none, one round", () -> stuck(2), CountedDesk::least);
        Traces.none("18 none, all in one", () -> stuck(3), CountedDesk::least);
        Traces.none("18 none, two rounds", () -> stuck(1, 2), CountedDesk::least);
        CountedDesk x = stuck(1, 2);
        Check.due("18 none", x.least(), NONE);
        planIs("18 none", x, 1, 2);
        x.unwant(0);
        x.unwant(0);
        Check.due("18 without wants there is one", x.least(), 1);
    }

    private static CountedDesk stuck(int... rounds) {
        CountedDesk x = Scenes.deadlock();
        for (int set : rounds) {
            x.round(set);
        }
        return x;
    }

    // "of several the one with the least first ROUND (as a number)"
    private static void leastOfSeveralHasTheLeastFirstRound() {
        for (int loose = 0; loose < 4; loose++) {
            CountedDesk x = chainOfThree(loose);
            int[] by = without(loose);
            Check.due("18 loose " + loose, x.least(), 3);
            planIs("18 loose " + loose, x, by[2], by[1], by[0] + (1 << loose));
        }
    }

    /** Four switches: but for the loose one each must change behind the next, as in Scenes.chain. */
    private static CountedDesk chainOfThree(int loose) {
        CountedDesk x = new CountedDesk();
        x.net(4);
        int[] by = without(loose);
        for (int i = 0; i < 3; i++) {
            x.rule(1, s(by[i]), 0, 0, 0, 1);
            x.host(s(by[i]), 2);
            x.want(4, 0, 0, i, 0, 0);
        }
        x.link(s(by[0]), 1, s(by[1]), 0);
        x.link(s(by[1]), 1, s(by[2]), 0);
        x.rule(1, loose, 0, 0, 0, 4);
        return x;
    }

    /** The sets of one switch, but for that of the loose one. */
    private static int[] without(int loose) {
        int[] sets = new int[3];
        for (int i = 0; i < 3; i++) {
            sets[i] = 1 << (i < loose ? i : i + 1);
        }
        return sets;
    }

    private static int s(int set) {
        return Integer.numberOfTrailingZeros(set);
    }

    // "then the least second one, and so on"
    private static void leastOfSeveralHasTheLeastSecondRound() {
        // 6 ahead of 5 ahead of 4, as in a chain; 3 ahead of 0; 1 and 2 loose.
        CountedDesk x = new CountedDesk();
        x.net(7);
        for (int s = 0; s < 7; s++) {
            x.rule(1, s, 0, 0, 0, s == 1 || s == 2 ? 4 : 1);
        }
        int[] from = {4, 5, 0};
        int[] to = {5, 6, 3};
        for (int i = 0; i < 3; i++) {
            x.link(from[i], 1, to[i], 0);
            x.host(from[i], 2);
            x.want(4, 0, 0, i, 0, 0);
        }
        Check.due("18 three rounds", x.least(), 3);
        planIs("18 the least first, then the least second", x, 64, 8 + 32, 1 + 2 + 4 + 16);
    }

    // "the fewest ROUNDS", also where another plan has a first round that is as good to take
    private static void leastIsNotTheGreatestFirstRound() {
        // Not good: 2 alone, 0 with 3, 1 with 3. So 3 may go first too, but then three rounds are needed.
        CountedDesk x = Scenes.forbidding(4, new int[] {15, 4}, new int[] {15, 9}, new int[] {15, 10});
        Check.due("18 good ones", x.look(7), 13);
        Check.due("18 two rounds", x.least(), 2);
        planIs("18 two rounds", x, 3, 12);
        x.empty();
        int[] other = {8, 4, 3};
        for (int i = 0; i < 3; i++) {
            Check.due("18 another plan", x.round(other[i]), i + 1);
            Check.due("18 is taken too", x.mid(i), NONE);
        }
        // The mirror image: 0 may go first too.
        CountedDesk y = Scenes.forbidding(4, new int[] {15, 2}, new int[] {15, 9}, new int[] {15, 5});
        Check.due("18 two rounds of the mirror", y.least(), 2);
        planIs("18 two rounds of the mirror", y, 12, 3);
    }

    /** What was found out for more unlike switches is not told for fewer. */
    private static void fewerAndFewerUnlike() {
        CountedDesk x = Scenes.loose(7);
        int[] products = {1, 1, 2, 6, 24, 120, 720, 5040};
        for (int left = 7; left >= 0; left--) {
            Check.due("19 orders of " + left, x.orders(), products[left]);
            Check.due("18 rounds of " + left, x.least(), left == 0 ? 0 : 1);
            Check.due("18 all of " + left, x.plan(0), left == 0 ? NONE : (1 << left) - 1);
            Check.due("20 the last of " + left, x.order(products[left] - 1), true);
            Check.due("20 its first", x.plan(0), left == 0 ? NONE : 1 << (left - 1));
            Check.due("20 its rounds", x.look(8), left);
            Check.due("20 no more", x.order(products[left]), false);
            x.copy(left - 1, true);
        }
        CountedDesk y = Scenes.loose(7);
        for (int first = 0; first < 7; first++) {
            Check.due("19 orders from " + first, y.orders(), products[7 - first]);
            Check.due("18 all from " + first, y.least() * 1000 + y.plan(0), 1000 + 128 - (1 << first));
            y.order(0);
            Check.due("20 the first from " + first, y.plan(0), 1 << first);
            y.copy(first, false);
        }
    }

    private static void leastMakesThePlanAnew() {
        CountedDesk x = Scenes.wantedTriangle();
        x.round(2);
        x.round(1);
        Check.due("18 anew", x.least(), 2);
        planIs("18 anew", x, 1, 2);
        Check.due("18 once more", x.least(), 2);
        planIs("18 once more", x, 1, 2);
        CountedDesk y = Scenes.loose(7);
        y.order(0);
        Check.due("18 behind seven rounds", y.least(), 1);
        planIs("18 behind seven rounds", y, 127);
    }

    // ---- promise 19: "How many rows of all UNLIKE SWITCHES, one a ROUND, are PLANS of TAKEN ROUNDS."

    private static void ordersFromNoneToAll() {
        Check.due("19 none is safe", Scenes.deadlock().orders(), 0);
        Check.due("19 nothing is unlike", new CountedDesk().orders(), 1);
        int product = 1;
        for (int n = 1; n <= 7; n++) {
            product *= n;
            Check.due("19 all of " + n, Scenes.loose(n).orders(), product);
        }
        Check.due("19 one of 5040", Scenes.chain().orders(), 1);
        for (int loose = 0; loose < 4; loose++) {
            Check.due("19 four of 24", chainOfThree(loose).orders(), 4);
        }
    }

    // ---- promise 20: "false, and it stays, if there is none such"

    private static void orderRefusesNoSuchOne() {
        Supplier<CountedDesk> four = () -> {
            CountedDesk x = chainOfThree(1);
            x.order(2);
            return x;
        };
        Traces.noOutside("20 order of 4", four, 0, 3, CountedDesk::order);
        Supplier<CountedDesk> all = () -> {
            CountedDesk x = Scenes.loose(7);
            x.round(5);
            return x;
        };
        Traces.noOutside("20 order of 5040", all, 0, 5039, CountedDesk::order);
        CountedDesk x = four.get();
        int[] no = {4, -1, Integer.MIN_VALUE, Integer.MAX_VALUE};
        for (int k : no) {
            Check.due("20 order " + k, x.order(k), false);
            planIs("20 order " + k + " is refused", x, 8, 4, 1, 2);
        }
    }

    private static void orderRefusesWhereThereIsNone() {
        Traces.noOutside("20 order of none", () -> stuck(2), 0, -1, CountedDesk::order);
        Traces.no("20 order 0 of none", () -> stuck(1, 2), x -> x.order(0));
        CountedDesk x = stuck(1, 2);
        Check.due("20 order 0", x.order(0), false);
        planIs("20 order 0 is refused", x, 1, 2);
    }

    private static void orderOfNothingUnlike() {
        Traces.noOutside("20 order of nothing", Scenes.FRESH, 0, 0, CountedDesk::order);
        CountedDesk x = new CountedDesk();
        Check.due("20 order 0 of nothing", x.order(0), true);
        planIs("20 order 0 of nothing", x);
        Check.due("20 it is whole", x.look(9), 1);
    }

    // "The PLAN becomes the k-th of these (ordered by their first SWITCHES, then the second ones ..): true"
    private static void ordersFirstAndLast() {
        for (int n = 1; n <= 7; n++) {
            CountedDesk x = Scenes.loose(n);
            int count = x.orders();
            Check.due("20 the first of " + count, x.order(0), true);
            for (int i = 0; i < n; i++) {
                Check.due("20 first, round " + i, x.plan(i), 1 << i);
            }
            Check.due("20 the last of " + count, x.order(count - 1), true);
            for (int i = 0; i < n; i++) {
                Check.due("20 last, round " + i, x.plan(i), 1 << (n - 1 - i));
            }
            Check.due("20 rounds", x.look(8), n);
            Check.due("20 whole", x.look(9), 1);
            Check.due("20 one beyond", x.order(count), false);
        }
    }

    private static void eachOrderIsAnother() {
        int[][] due = {{2, 8, 4, 1}, {8, 2, 4, 1}, {8, 4, 1, 2}, {8, 4, 2, 1}};
        for (int k = 0; k < 4; k++) {
            CountedDesk x = chainOfThree(1);
            Check.due("20 order " + k, x.order(k), true);
            planIs("20 order " + k, x, due[k]);
        }
        CountedDesk x = Scenes.loose(3);
        int[][] all = {{1, 2, 4}, {1, 4, 2}, {2, 1, 4}, {2, 4, 1}, {4, 1, 2}, {4, 2, 1}};
        for (int k = 5; k >= 0; k--) {
            Check.due("20 order " + k + " of 6", x.order(k), true);
            planIs("20 order " + k + " of 6", x, all[k]);
        }
    }

    // promises 18 and 20: "(The run ends.)"
    private static void leastAndOrderEndTheRun() {
        CountedDesk x = Scenes.BUSY.get();
        Check.due("18 in a run", x.least(), 2);
        Check.due("18 it has ended", x.run(0), NONE);
        Check.due("18 no packet", x.packet(0, 0), NONE);
        CountedDesk y = Scenes.BUSY.get();
        Check.due("20 in a run", y.order(0), true);
        Check.due("20 it has ended", y.run(0), NONE);
        Check.due("20 no packet", y.packet(0, 0), NONE);
        CountedDesk z = Scenes.BUSY.get();
        Check.due("19 in a run", z.orders(), 3);
        Check.due("19 it goes on", z.run(2), 3);
    }

    // "(The run ends.)" stands behind round()'s "nothing is done" too, so it is read as being of calls that are done
    private static void refusedLeastAndOrderLeaveTheRun() {
        Supplier<CountedDesk> inARun = () -> {
            CountedDesk x = stuck(2, 1);
            x.begin();
            x.send(0, 1);
            x.change(1);
            x.hop(0);
            return x;
        };
        Traces.none("18 none, in a run", inARun, CountedDesk::least);
        Traces.no("20 order 0 of none, in a run", inARun, x -> x.order(0));
        Traces.noOutside("20 order of 3, in a run", Scenes.BUSY, 0, 2, CountedDesk::order);
        Traces.no("20 order of 3, all rounds done", Scenes.DONE, x -> x.order(3));
    }

    // ---- promise 21: "NONE, and nothing is done: it is empty, has a SWITCH that is not UNLIKE or is in a ROUND
    // already."

    private static void roundRefusesTheEmptySet() {
        Traces.none("21 empty set, fresh", Scenes.FRESH, x -> x.round(0));
        Traces.none("21 empty set", () -> Scenes.loose(7), x -> x.round(0));
        Traces.none("21 empty set in a run", Scenes.BUSY, x -> x.round(0));
        Traces.none("21 empty set behind seven", Scenes.FULL, x -> x.round(0));
    }

    private static void roundRefusesWhatIsNotUnlike() {
        Supplier<CountedDesk> allButOne = () -> {
            CountedDesk x = Scenes.loose(5);
            x.copy(2, true);
            x.round(8);
            x.begin();
            return x;
        };
        int[] no = {4, 5, 6, 7, 16 + 4, 32, 33, 64, 128, 129, 256, 1 << 30, (1 << 30) + 1, Integer.MAX_VALUE,
            Integer.MIN_VALUE, Integer.MIN_VALUE + 1, -1, -2, -8, -16, -32};
        for (int set : no) {
            Traces.none("21 round " + set, allButOne, x -> x.round(set));
        }
        for (int set = 1; set < 128; set++) {
            int of = set;
            CountedDesk x = new CountedDesk();
            x.net(7);
            Check.due("21 nothing is unlike, " + set, x.round(of), NONE);
            Check.due("21 no round", x.look(8), 0);
        }
        for (int n = 1; n <= 7; n++) {
            int count = n;
            Traces.noneOutside("21 set of " + n, () -> Scenes.loose(count), 1, (1 << n) - 1, CountedDesk::round);
        }
    }

    private static void roundRefusesWhatIsInARound() {
        Supplier<CountedDesk> some = () -> {
            CountedDesk x = Scenes.loose(7);
            x.round(64 + 1);
            x.round(8);
            x.begin();
            return x;
        };
        int taken = 64 + 8 + 1;
        for (int set = 1; set < 128; set++) {
            int of = set;
            if ((set & taken) != 0) {
                Traces.none("21 round " + set, some, x -> x.round(of));
            } else {
                Check.due("21 round " + set, some.get().round(set), 3);
            }
        }
        for (int s = 0; s < 7; s++) {
            int of = 1 << s;
            Traces.none("21 each is in a round, " + s, Scenes.FULL, x -> x.round(of));
        }
        Traces.none("21 all are in rounds", Scenes.FULL, x -> x.round(127));
    }

    // "A ROUND comes behind the PLAN's: how many it has."
    private static void roundTakesEachSet() {
        for (int set = 1; set < 128; set++) {
            CountedDesk x = Scenes.loose(7);
            Check.due("21 first round " + set, x.round(set), 1);
            Check.due("21 whole or not", x.look(9), set == 127 ? 1 : 0);
            if (set != 127) {
                Check.due("21 the rest behind " + set, x.round(127 - set), 2);
                planIs("21 both", x, set, 127 - set);
                Check.due("21 now whole", x.look(9), 1);
            }
        }
    }

    // terms 2: "each SWITCH once; up to 7"
    private static void roundTakesTheSeventh() {
        for (int n = 1; n <= 7; n++) {
            CountedDesk x = Scenes.loose(n);
            for (int s = n - 1; s >= 0; s--) {
                Check.due("21 not whole yet", x.look(9), 0);
                Check.due("21 round of " + s, x.round(1 << s), n - s);
            }
            Check.due("21 rounds of " + n, x.look(8), n);
            Check.due("21 whole", x.look(9), 1);
            Check.due("21 no more", x.round(1), NONE);
            Check.due("21 the first of them", x.plan(0), 1 << (n - 1));
            Check.due("21 the last of them", x.plan(n - 1), 1);
        }
    }

    // "(The run ends.)"
    private static void roundEndsTheRun() {
        CountedDesk x = Scenes.loose(3);
        x.round(1);
        x.begin();
        Check.due("21 in a run", x.round(2), 2);
        Check.due("21 it has ended", x.run(0), NONE);
        x.begin();
        Check.due("21 refused in a run", x.round(2), NONE);
        Check.due("21 that goes on", x.run(0), 0);
    }

    // ---- promise 22: "The PLAN is empty; the run ends."

    private static void emptyOfWhatIsEmpty() {
        Traces.none("22 twice, fresh", Scenes.FRESH, PlanLimitsTest::emptyTwice);
        Traces.none("22 twice, no plan", Scenes::wantedTriangle, PlanLimitsTest::emptyTwice);
    }

    private static int emptyTwice(CountedDesk x) {
        x.empty();
        x.empty();
        return x.plan(0);
    }

    private static void emptyEndsTheRun() {
        CountedDesk x = Scenes.FULL.get();
        x.empty();
        planIs("22 seven rounds go", x);
        Check.due("22 not whole", x.look(9), 0);
        Check.dueRow("22 no run", x::run, NONE, NONE, NONE, NONE, NONE);
        Check.due("22 no packet", x.packet(39, 0), NONE);
        Check.due("22 no run can begin", x.begin(), false);
        Check.due("22 rules stay", x.look(3), 84);
        Check.due("22 wants stay", x.look(4), 10);
        Check.due("22 hosts stay", x.look(1), 6);
        Check.due("22 links stay", x.look(2), 10);
        Check.due("22 each switch is free again", x.round(127), 1);
    }

    // ---- promise 23: "ROUND i of the PLAN as a number; NONE if there is none such."

    private static void planRefusesNoSuchRound() {
        Traces.noneOutside("23 round of 2", Scenes.BUSY, 0, 1, CountedDesk::plan);
        Traces.noneOutside("23 round of none", Scenes.FRESH, 0, -1, CountedDesk::plan);
        Traces.none("23 round 7 of 7", Scenes.FULL, x -> x.plan(7));
        Traces.none("23 round -1 of 7", Scenes.FULL, x -> x.plan(-1));
        CountedDesk x = Scenes.FULL.get();
        x.empty();
        x.round(6);
        for (int i = 1; i <= 7; i++) {
            Check.due("23 rounds of an earlier plan, " + i, x.plan(i), NONE);
        }
    }

    private static void planTellsEachRound() {
        CountedDesk x = Scenes.FULL.get();
        Check.dueRow("23 round", x::plan, 1, 2, 4, 8, 16, 32, 64, NONE);
    }

    // ---- promise 24: "The least MIXTURE (as a number) by which ROUND i is not TAKEN; NONE if it is, or there is none
    // such."

    private static void midRefusesNoSuchRound() {
        Supplier<CountedDesk> bad = () -> {
            CountedDesk x = Scenes.wantedTriangle();
            x.round(2);
            x.round(1);
            return x;
        };
        Traces.noneOutside("24 round of 2", bad, 0, 1, CountedDesk::mid);
        Traces.noneOutside("24 round of none", Scenes.FRESH, 0, -1, CountedDesk::mid);
        Traces.none("24 round 7 of 7", Scenes.FULL, x -> x.mid(7));
        CountedDesk x = bad.get();
        Check.due("24 round 0", x.mid(0), 2);
        Check.due("24 round 1", x.mid(1), 2);
        x.empty();
        Check.due("24 round 0 has gone", x.mid(0), NONE);
        // What all rounds leave is not good, yet there is no round behind them that would not be taken.
        Supplier<CountedDesk> badEnd = () -> {
            CountedDesk y = Scenes.wantedTriangle();
            y.round(2);
            return y;
        };
        Traces.noneOutside("24 round of 1", badEnd, 0, 0, CountedDesk::mid);
    }

    private static void midOfATakenRound() {
        CountedDesk x = Scenes.chain();
        x.order(0);
        for (int i = 0; i < 7; i++) {
            Check.due("24 round " + i + " is taken", x.mid(i), NONE);
        }
        CountedDesk y = Scenes.loose(7);
        y.round(127);
        Check.due("24 all at once is taken", y.mid(0), NONE);
    }

    // terms 2: "each MIXTURE of all SWITCHES of ROUNDS ahead of it and some (none, all) of its own"
    private static void midWithNoneOfItsOwn() {
        CountedDesk x = Scenes.chain();
        for (int s = 0; s < 7; s++) {
            x.round(1 << s);
        }
        // The first round is bad by all of its own; the others, the last too, by none of their own.
        for (int i = 0; i < 7; i++) {
            Check.due("24 round " + i, x.mid(i), i == 0 ? 1 : (1 << i) - 1);
        }
    }

    private static void midWithAllOfItsOwn() {
        CountedDesk x = Scenes.wantedTriangle();
        x.round(2);
        Check.due("24 bad by all of its own", x.mid(0), 2);
        CountedDesk y = Scenes.chain();
        y.round(64);
        y.round(32);
        y.round(16 + 4);
        y.round(8 + 2 + 1);
        Check.due("24 round 0 is taken", y.mid(0), NONE);
        Check.due("24 round 1 is taken", y.mid(1), NONE);
        Check.due("24 round 2, with 2 ahead of 3", y.mid(2), 96 + 4);
        Check.due("24 round 3, with none of its own", y.mid(3), 96 + 16 + 4);
    }

    private static void midTellsTheLeast() {
        CountedDesk x = Scenes.chain();
        x.round(127);
        Check.due("24 the least of many", x.mid(0), 1);
        x.empty();
        x.round(126);
        Check.due("24 without 0", x.mid(0), 2);
        x.empty();
        x.round(64);
        x.round(63);
        Check.due("24 behind 6", x.mid(1), 65);
        x.empty();
        x.round(96);
        Check.due("24 5 ahead of 6", x.mid(0), 32);
    }

    // ---- terms 2: "Changing the NET, a RULE or a WANT empties the PLAN and ends the run."

    private static void changesEmptyThePlanAndEndTheRun() {
        empties("net", x -> x.net(4));
        empties("net of another number", x -> x.net(7));
        empties("link", x -> x.link(0, 3, 1, 3));
        empties("host", x -> x.host(1, 3) == 3);
        empties("unplug of a link", x -> x.unplug(3, 0));
        empties("old rule", x -> x.rule(0, 2, 0, 0, 0, 0) == 3);
        empties("new rule", x -> x.rule(1, 1, 15, 15, 9, 4) == 1);
        empties("old strike", x -> x.strike(0, 2, 1) == 1);
        empties("new strike", x -> x.strike(1, 3, 0) == 1);
        empties("copy back", x -> x.copy(0, true) == 1);
        empties("copy forth", x -> x.copy(1, false) == 0);
        empties("want", x -> x.want(1, 0, 0, 2, 0, 0) == 5);
        empties("unwant of the first", x -> x.unwant(0) == 4);
        empties("unwant of the last", x -> x.unwant(4) == 4);
        CountedDesk x = Scenes.loose(3);
        x.host(2, 2);
        x.round(3);
        x.begin();
        Check.due("t2 unplug of a host", x.unplug(2, 2), true);
        isEmptied("unplug of a host", x);
    }

    private static void empties(String what, java.util.function.Predicate<CountedDesk> call) {
        CountedDesk planned = Scenes.PLANNED.get();
        Check.due("t2 " + what, call.test(planned), true);
        isEmptied(what, planned);
        CountedDesk busy = Scenes.BUSY.get();
        Check.due("t2 " + what + " in a run", call.test(busy), true);
        isEmptied(what + " in a run", busy);
    }

    private static void isEmptied(String what, CountedDesk x) {
        planIs("t2 " + what, x);
        Check.due("t2 " + what + ": it has no round", x.mid(0), NONE);
        Check.dueRow("t2 " + what + ": run", x::run, NONE, NONE, NONE, NONE, NONE);
        Check.due("t2 " + what + ": packet", x.packet(0, 0), NONE);
        Check.due("t2 " + what + ": send", x.send(0, 0), NONE);
        Check.due("t2 " + what + ": hop", x.hop(0), NONE);
        Check.due("t2 " + what + ": change", x.change(0), NONE);
        Check.due("t2 " + what + ": next", x.next(), NONE);
        Check.due("t2 " + what + ": begin", x.begin(), false);
    }
}
