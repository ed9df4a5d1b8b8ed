/** For each promise of the document: ordinary inputs, the edges that it names, and wrong inputs. */
public final class PromisesTest {
    private static final int NONE = RuleChangeDesk.NONE;
    private static final int LOW = Integer.MIN_VALUE;
    private static final int HIGH = Integer.MAX_VALUE;

    private static void due(String what, int got, int due) {
        Check.due(what, got, due);
    }

    private static void due(String what, boolean got, boolean due) {
        Check.due(what, got, due);
    }

    public static void main(String[] args) {
        newObject();
        net();
        link();
        host();
        unplugLinks();
        unplugHosts();
        rule();
        whichRuleActs();
        strike();
        copy();
        want();
        unwant();
        look();
        unlike();
        classes();
        way();
        on();
        holdsComesAndNever();
        holdsPastAndNoRing();
        holdsWhole();
        kept();
        why();
        least();
        leastOfSeveral();
        orders();
        order();
        round();
        empty();
        mid();
        begin();
        send();
        hop();
        hopByRulesOfNow();
        change();
        next();
        brokenWants();
        run();
        packet();
        whatEndsARun();
        fullDesk();
        wrongInputsEverywhere();
        Check.finish();
    }

    // ---- promise 1

    private static void newObject() {
        CountedDesk x = new CountedDesk();
        due("1 NONE", RuleChangeDesk.NONE, -1);
        due("1 switches", x.look(0), 1);
        for (int what = 1; what <= 5; what++) {
            due("1 look " + what, x.look(what), 0);
        }
        due("1 classes", x.look(6), 1);
        due("1 good mixtures", x.look(7), 1);
        due("1 rounds", x.look(8), 0);
        due("1 whole", x.look(9), 1);
        due("1 no way yet", x.on(-1), NONE);
        due("1 no run", x.run(0), NONE);
        due("1 switch 0", x.host(0, 3), 0);
        due("1 no switch 1", x.host(1, 0), NONE);
        due("1 dropped without rules", x.way(0, 0, 0), 1);
        due("1 its end", x.on(-1), 10);
    }

    // ---- promise 2

    private static void net() {
        CountedDesk x = Scenes.wantedTriangle();
        due("2 net 0", x.net(0), false);
        due("2 net 8", x.net(8), false);
        due("2 net -1", x.net(-1), false);
        due("2 net low", x.net(LOW), false);
        due("2 nothing done", x.look(0) * 1000 + x.look(1) * 100 + x.look(2) * 10 + x.look(4), 3231);
        due("2 rules stay", x.look(3), 5);
        x.least();
        x.begin();
        due("2 net 9 refused", x.net(9), false);
        due("2 the run stays", x.run(0), 0);
        due("2 net 7", x.net(7), true);
        due("2 switches", x.look(0), 7);
        for (int what = 1; what <= 5; what++) {
            due("2 look " + what, x.look(what), 0);
        }
        due("2 plan", x.look(8), 0);
        due("2 run", x.run(0), NONE);
        due("2 ports are free", x.link(0, 1, 6, 0), true);
        due("2 hosts from 0", x.host(0, 0), 0);
        due("2 no rules", x.way(0, 0, 0), 1);
        due("2 dropped", x.on(-1), 10);
        due("2 net 1", x.net(1), true);
        due("2 no switch 1 now", x.rule(0, 1, 0, 0, 0, 0), NONE);
        x.net(2);
        due("2 what was before is gone", x.look(2) + x.look(1), 0);
    }

    // ---- promise 3

    private static void link() {
        CountedDesk x = new CountedDesk();
        x.net(3);
        due("3 first", x.link(0, 0, 2, 3), true);
        due("3 count", x.look(2), 1);
        int[][] no = {{3, 1, 0, 1}, {0, 1, 3, 1}, {-1, 1, 0, 1}, {0, 1, -1, 1}, {0, 4, 1, 1}, {0, 1, 1, 4},
            {0, -1, 1, 1}, {0, 1, 1, -1}, {1, 0, 1, 1}, {1, 0, 1, 0}, {0, 0, 1, 0}, {1, 0, 0, 0}, {2, 3, 1, 0},
            {1, 0, 2, 3}, {LOW, LOW, HIGH, HIGH}, {HIGH, 0, 0, 1}, {0, 0, 2, 3}};
        for (int[] c : no) {
            due("3 refused " + java.util.Arrays.toString(c), x.link(c[0], c[1], c[2], c[3]), false);
        }
        due("3 count stays", x.look(2), 1);
        x.host(1, 0);
        due("3 a host is there", x.link(1, 0, 2, 0), false);
        due("3 two links of the same switches", x.link(2, 0, 0, 1), true);
        due("3 count 2", x.look(2), 2);
        x.rule(0, 1, 0, 0, 0, 1);
        x.rule(0, 2, 0, 0, 0, 0);
        x.rule(0, 0, 0, 0, 0, 3);
        x.link(1, 1, 2, 1);
        due("3 both ends lead on", x.way(0, 0, 0), 3);
        due("3 to 2", x.on(1), 2);
        due("3 to 0", x.on(2), 0);
    }

    // ---- promise 4

    private static void host() {
        CountedDesk x = new CountedDesk();
        x.net(2);
        x.link(0, 3, 1, 3);
        due("4 first", x.host(1, 0), 0);
        int[][] no = {{1, 0}, {0, 3}, {1, 3}, {2, 0}, {-1, 0}, {0, 4}, {0, -1}, {LOW, 0}, {0, HIGH}};
        for (int[] c : no) {
            due("4 refused " + c[0] + ", " + c[1], x.host(c[0], c[1]), NONE);
        }
        due("4 count", x.look(1), 1);
        due("4 second", x.host(0, 0), 1);
        due("4 third", x.host(0, 1), 2);
        due("4 fourth", x.host(0, 2), 3);
        due("4 fifth", x.host(1, 1), 4);
        due("4 no seventh place yet", x.look(1), 5);
        x.net(3);
        for (int i = 0; i < 6; i++) {
            due("4 host " + i, x.host(i / 3, i % 3), i);
        }
        due("4 there are 6", x.host(2, 0), NONE);
        due("4 still 6", x.look(1), 6);
        due("4 its port is free", x.link(2, 0, 0, 3), true);
    }

    // ---- promise 5

    private static void unplugLinks() {
        CountedDesk x = new CountedDesk();
        x.net(3);
        x.link(0, 0, 1, 1);
        x.link(1, 0, 2, 2);
        due("5 nothing there", x.unplug(0, 1), false);
        due("5 no switch", x.unplug(3, 0), false);
        due("5 no port", x.unplug(0, 4), false);
        due("5 negative", x.unplug(-1, -1), false);
        due("5 links stay", x.look(2), 2);
        due("5 by its far end", x.unplug(1, 1), true);
        due("5 one left", x.look(2), 1);
        due("5 gone at both ends", x.unplug(0, 0), false);
        due("5 the other stays", x.host(2, 2), NONE);
        due("5 the near end is free", x.host(0, 0), 0);
        due("5 the far end is free", x.host(1, 1), 1);
        due("5 by its near end", x.unplug(1, 0), true);
        due("5 none left", x.look(2), 0);
    }

    private static void unplugHosts() {
        CountedDesk x = new CountedDesk();
        x.host(0, 0);
        x.host(0, 1);
        x.host(0, 2);
        due("5 not the last", x.unplug(0, 0), false);
        due("5 not the last either", x.unplug(0, 1), false);
        x.want(1, 0, 0, 2, 0, 0);
        due("5 a want is from it", x.unplug(0, 2), false);
        x.unwant(0);
        int[] targets = {0, 2};
        for (int kind : targets) {
            x.want(kind, 0, 0, 0, 2, 0);
            due("5 a want is to it, kind " + kind, x.unplug(0, 2), false);
            x.unwant(0);
        }
        x.want(3, 0, 0, 0, 2, 0);
        due("5 a want is to it, kind 3", x.unplug(0, 2), false);
        x.unwant(0);
        x.want(1, 0, 0, 0, 2, 2);
        x.want(4, 0, 0, 1, 2, 2);
        x.want(0, 0, 0, 0, 1, 2);
        due("5 no want is of it", x.unplug(0, 2), true);
        due("5 two left", x.look(1), 2);
        due("5 now the last, but wanted", x.unplug(0, 1), false);
        due("5 its port is free", x.host(0, 3), 2);
        CountedDesk y = new CountedDesk();
        y.host(0, 1);
        due("5 the only host", y.unplug(0, 1), true);
        due("5 no host is left", y.look(1), 0);
        due("5 the next is 0 again", y.host(0, 2), 0);
    }

    // ---- promise 6 and term 1

    private static void rule() {
        CountedDesk x = new CountedDesk();
        x.net(2);
        int[][] no = {{-1, 0, 0, 0, 0, 0}, {2, 0, 0, 0, 0, 0}, {0, -1, 0, 0, 0, 0}, {0, 2, 0, 0, 0, 0},
            {0, 0, -1, 0, 0, 0}, {0, 0, 16, 0, 0, 0}, {0, 0, 0, -1, 0, 0}, {0, 0, 0, 16, 0, 0},
            {0, 0, 0, 0, -1, 0}, {0, 0, 0, 0, 10, 0}, {0, 0, 0, 0, 0, -1}, {0, 0, 0, 0, 0, 5},
            {LOW, LOW, LOW, LOW, LOW, LOW}, {HIGH, HIGH, HIGH, HIGH, HIGH, HIGH}, {0, HIGH, 0, 0, 0, 0}};
        for (int[] c : no) {
            due("6 refused " + java.util.Arrays.toString(c), x.rule(c[0], c[1], c[2], c[3], c[4], c[5]), NONE);
        }
        due("6 no rules", x.look(3), 0);
        for (int i = 1; i <= 6; i++) {
            due("6 rule " + i, x.rule(1, 1, 15, 15, 9, 4), i);
        }
        due("6 there are 6", x.rule(1, 1, 0, 0, 0, 0), NONE);
        due("6 other rows have room", x.rule(0, 1, 0, 0, 0, 0), 1);
        due("6 and of the other switch", x.rule(1, 0, 0, 0, 0, 3), 1);
        due("6 eight in all", x.look(3), 8);
    }

    private static void whichRuleActs() {
        CountedDesk x = new CountedDesk();
        x.host(0, 0);
        x.host(0, 1);
        x.host(0, 2);
        due("t1 no rule", endOf(x, 0, 5), 10);
        x.rule(0, 0, 4, 12, 3, 0);
        due("t1 not of its span", endOf(x, 0, 8), 10);
        due("t1 alike in the bits", endOf(x, 0, 4), 0);
        due("t1 alike in the bits too", endOf(x, 0, 7), 0);
        due("t1 one bit is another", endOf(x, 0, 12), 10);
        x.rule(0, 0, 0, 0, 3, 1);
        due("t1 same rank: the first", endOf(x, 0, 5), 0);
        due("t1 the other has it", endOf(x, 0, 8), 1);
        x.rule(0, 0, 5, 15, 4, 2);
        due("t1 higher rank", endOf(x, 0, 5), 2);
        x.rule(0, 0, 6, 15, 9, 4);
        due("t1 dropped by a rule", endOf(x, 0, 6), 10);
        x.rule(0, 0, 9, 15, 0, 2);
        due("t1 lower rank behind", endOf(x, 0, 9), 1);
        x.rule(0, 0, 10, 15, 9, 3);
        due("t1 lost", endOf(x, 0, 10), 11);
        due("t1 new has none of them", endOf(x, 1, 5), 10);
        x.net(1);
        x.host(0, 0);
        x.rule(0, 0, 0, 0, 0, 0);
        due("t1 rank 0 acts", endOf(x, 0, 5), 0);
    }

    private static int endOf(CountedDesk x, int mixture, int mark) {
        x.way(mixture, 0, mark);
        return x.on(-1);
    }

    // ---- promise 7

    private static void strike() {
        CountedDesk x = new CountedDesk();
        x.net(2);
        x.host(0, 0);
        x.host(0, 1);
        x.rule(0, 0, 0, 0, 5, 0);
        x.rule(0, 0, 0, 0, 5, 1);
        x.rule(0, 0, 0, 0, 5, 4);
        int[][] no = {{0, 0, 3}, {0, 0, -1}, {1, 0, 0}, {0, 1, 0}, {2, 0, 0}, {-1, 0, 0}, {0, 2, 0}, {0, -1, 0},
            {LOW, LOW, LOW}, {0, 0, HIGH}};
        for (int[] c : no) {
            due("7 refused " + java.util.Arrays.toString(c), x.strike(c[0], c[1], c[2]), NONE);
        }
        due("7 three stay", x.look(3), 3);
        due("7 the first acts", endOf(x, 0, 0), 0);
        due("7 first goes", x.strike(0, 0, 0), 2);
        due("7 the second acts", endOf(x, 0, 0), 1);
        due("7 last goes", x.strike(0, 0, 1), 1);
        due("7 still the same acts", endOf(x, 0, 0), 1);
        due("7 no rule 1", x.strike(0, 0, 1), NONE);
        due("7 all gone", x.strike(0, 0, 0), 0);
        due("7 dropped", endOf(x, 0, 0), 10);
        x.rule(0, 0, 0, 0, 5, 0);
        x.rule(0, 0, 0, 0, 4, 1);
        x.rule(0, 0, 0, 0, 4, 4);
        due("7 the middle one goes", x.strike(0, 0, 1), 2);
        x.strike(0, 0, 0);
        due("7 the third is left", endOf(x, 0, 0), 10);
    }

    // ---- promise 8

    private static void copy() {
        CountedDesk x = new CountedDesk();
        x.net(2);
        x.host(0, 0);
        x.host(0, 1);
        x.rule(0, 0, 0, 0, 5, 0);
        x.rule(0, 0, 0, 0, 6, 1);
        x.rule(1, 0, 0, 0, 1, 4);
        x.rule(0, 1, 3, 3, 3, 3);
        due("8 no switch 2", x.copy(2, true), NONE);
        due("8 no switch -1", x.copy(-1, false), NONE);
        due("8 low", x.copy(LOW, false), NONE);
        due("8 rules stay", x.look(3), 4);
        due("8 new like old", x.copy(0, true), 2);
        due("8 five in all", x.look(3), 5);
        due("8 unlike is switch 1 alone", x.look(5), 2);
        due("8 new acts like old", endOf(x, 1, 0), 1);
        x.strike(1, 0, 1);
        due("8 the rows are two", endOf(x, 0, 0), 1);
        due("8 new has one less", endOf(x, 1, 0), 0);
        due("8 old like new", x.copy(0, false), 1);
        due("8 old acts like new", endOf(x, 0, 0), 0);
        due("8 old like new, none", x.copy(1, false), 0);
        due("8 all alike", x.look(5), 0);
        due("8 two in all", x.look(3), 2);
    }

    // ---- promise 9

    private static void want() {
        CountedDesk x = new CountedDesk();
        x.net(2);
        x.host(0, 0);
        x.host(1, 0);
        int[][] no = {{-1, 0, 0, 0, 0, 0}, {5, 0, 0, 0, 0, 0}, {0, -1, 0, 0, 0, 0}, {0, 16, 0, 0, 0, 0},
            {0, 0, -1, 0, 0, 0}, {0, 0, 16, 0, 0, 0}, {0, 0, 0, -1, 0, 0}, {0, 0, 0, 2, 0, 0},
            {1, 0, 0, 2, 0, 0}, {2, 0, 0, 2, 0, 0}, {3, 0, 0, 2, 0, 0}, {4, 0, 0, 2, 0, 0},
            {0, 0, 0, 0, 2, 0}, {2, 0, 0, 0, 2, 0}, {3, 0, 0, 0, 2, 0}, {0, 0, 0, 0, -1, 0}, {2, 0, 0, 0, -1, 0},
            {3, 0, 0, 0, -1, 0}, {3, 0, 0, 0, 1, 2}, {3, 0, 0, 0, 1, -1}, {3, 0, 0, 0, 1, HIGH},
            {LOW, LOW, LOW, LOW, LOW, LOW}, {1, 0, 0, HIGH, 0, 0}};
        for (int[] c : no) {
            due("9 refused " + java.util.Arrays.toString(c), x.want(c[0], c[1], c[2], c[3], c[4], c[5]), NONE);
        }
        due("9 no wants", x.look(4), 0);
        due("9 comes, any s", x.want(0, 15, 15, 1, 1, 77), 0);
        due("9 no ring, any b and s", x.want(1, 0, 0, 1, 77, -5), 1);
        due("9 never, any s", x.want(2, 0, 0, 0, 1, LOW), 2);
        due("9 past", x.want(3, 0, 0, 0, 1, 1), 3);
        due("9 whole, any b and s", x.want(4, 0, 0, 0, HIGH, HIGH), 4);
        for (int i = 5; i < 10; i++) {
            due("9 want " + i, x.want(1, 0, 0, 0, 0, 0), i);
        }
        due("9 there are 10", x.want(1, 0, 0, 0, 0, 0), NONE);
        due("9 ten", x.look(4), 10);
    }

    // ---- promise 10

    private static void unwant() {
        CountedDesk x = Scenes.triangle();
        x.want(0, 0, 0, 0, 1, 0);
        x.want(2, 0, 0, 0, 1, 0);
        x.want(0, 0, 0, 1, 1, 0);
        due("10 no want 3", x.unwant(3), NONE);
        due("10 no want -1", x.unwant(-1), NONE);
        due("10 high", x.unwant(HIGH), NONE);
        due("10 three stay", x.look(4), 3);
        due("10 want 0 holds", x.holds(0, 0), 1);
        due("10 want 1 does not", x.holds(1, 0), 0);
        due("10 the first goes", x.unwant(0), 2);
        due("10 the second is 0 now", x.holds(0, 0), 0);
        due("10 the third is 1 now", x.holds(1, 0), 1);
        due("10 no want 2 now", x.holds(2, 0), NONE);
        due("10 the last goes", x.unwant(1), 1);
        due("10 the other stays", x.holds(0, 0), 0);
        due("10 all gone", x.unwant(0), 0);
        due("10 none left", x.unwant(0), NONE);
    }

    // ---- promise 11

    private static void look() {
        CountedDesk x = Scenes.wantedTriangle();
        int[] due = {3, 2, 3, 5, 1, 3, 1, 3, 0, 0};
        for (int what = 0; what < due.length; what++) {
            due("11 look " + what, x.look(what), due[what]);
        }
        due("11 look -1", x.look(-1), NONE);
        due("11 look 10", x.look(10), NONE);
        due("11 look low", x.look(LOW), NONE);
        x.round(1);
        due("11 one round", x.look(8), 1);
        due("11 not whole", x.look(9), 0);
        x.round(2);
        due("11 two rounds", x.look(8), 2);
        due("11 whole, taken or not", x.look(9), 1);
        x.unwant(0);
        due("11 all good without wants", x.look(7), 4);
        x.want(0, 0, 0, 1, 0, 0);
        due("11 all good if none is kept", x.look(7), 4);
        due("11 mixtures of 7", Scenes.loose(7).look(7), 128);
    }

    private static void unlike() {
        int[][] same = {{1, 2, 3, 4}, {5, 6, 7, 0}};
        int[][] other = {{0, 2, 3, 4}, {1, 3, 3, 4}, {1, 2, 4, 4}, {1, 2, 3, 3}, {9, 2, 3, 4}};
        for (int[] c : other) {
            CountedDesk x = new CountedDesk();
            x.net(7);
            for (int[] r : same) {
                x.rule(0, 6, r[0], r[1], r[2], r[3]);
            }
            x.rule(1, 6, c[0], c[1], c[2], c[3]);
            x.rule(1, 6, 5, 6, 7, 0);
            due("t1 unlike by one number " + java.util.Arrays.toString(c), x.look(5), 64);
            x.strike(1, 6, 0);
            due("t1 unlike by their count", x.look(5), 64);
            x.rule(1, 6, 1, 2, 3, 4);
            due("t1 unlike by their order", x.look(5), 64);
            x.strike(1, 6, 0);
            x.rule(1, 6, 5, 6, 7, 0);
            due("t1 alike", x.look(5), 0);
        }
    }

    // ---- promises 11 (classes) and 12

    private static void classes() {
        CountedDesk x = new CountedDesk();
        x.net(7);
        due("12 one class", x.look(6), 1);
        due("12 all in it", x.ofClass(15), 0);
        x.rule(0, 6, 0, 1, 0, 4);
        due("12 by an old rule", x.look(6), 2);
        x.rule(0, 0, 1, 1, 5, 1);
        due("12 the other half tells no more", x.look(6), 2);
        due("12 even", x.ofClass(14), 0);
        due("12 odd", x.ofClass(15), 1);
        x.rule(1, 3, 4, 12, 0, 4);
        due("12 by a new rule", x.look(6), 4);
        due("12 0", x.ofClass(0), 0);
        due("12 1", x.ofClass(1), 1);
        due("12 4", x.ofClass(4), 2);
        due("12 5", x.ofClass(5), 3);
        due("12 6", x.ofClass(6), 2);
        due("12 8", x.ofClass(8), 0);
        due("12 13", x.ofClass(13), 1);
        x.strike(0, 6, 0);
        due("12 still told apart", x.look(6), 4);
        x.strike(0, 0, 0);
        due("12 no more", x.look(6), 2);
        due("12 5 now", x.ofClass(5), 1);
        x.strike(1, 3, 0);
        for (int bit = 0; bit < 4; bit++) {
            x.rule(bit % 2, bit, 15, 1 << bit, 0, 4);
        }
        for (int mark = 0; mark < 16; mark++) {
            due("12 each its own", x.ofClass(mark), mark);
        }
        due("12 sixteen", x.look(6), 16);
        due("12 no mark 16", x.ofClass(16), NONE);
        due("12 no mark -1", x.ofClass(-1), NONE);
        due("12 high", x.ofClass(HIGH), NONE);
        x.net(7);
        due("12 one class again", x.look(6), 1);
    }

    // ---- promise 13

    private static void way() {
        CountedDesk x = Scenes.triangle();
        due("13 old", x.way(0, 0, 5), 3);
        due("13 new", x.way(7, 0, 5), 2);
        due("13 0 new", x.way(1, 0, 5), 2);
        due("13 1 new", x.way(2, 0, 5), 2);
        due("13 2 new is like old", x.way(4, 0, 5), 3);
        due("13 from host 1", x.way(0, 1, 5), 1);
        due("13 to the host that it is from", x.on(-1), 1);
        int[][] no = {{-1, 0, 0}, {8, 0, 0}, {0, -1, 0}, {0, 2, 0}, {0, 0, -1}, {0, 0, 16}, {LOW, 0, 0}, {0, HIGH, 0},
            {0, 0, LOW}, {127, 0, 0}};
        for (int[] c : no) {
            due("13 refused " + java.util.Arrays.toString(c), x.way(c[0], c[1], c[2]), NONE);
        }
        CountedDesk y = Scenes.line(7);
        due("13 seven switches", y.way(0, 0, 0), 7);
        due("13 mixture 127", y.way(127, 0, 0), 1);
        due("13 no mixture 128", y.way(128, 0, 0), NONE);
    }

    // ---- promise 14

    private static void on() {
        CountedDesk x = Scenes.triangle();
        due("14 ahead of any way", x.on(0), NONE);
        due("14 end ahead of any way", x.on(-1), NONE);
        x.way(0, 9, 0);
        due("14 a refused way is none", x.on(-1), NONE);
        x.way(0, 0, 3);
        due("14 on 0", x.on(0), 0);
        due("14 on 1", x.on(1), 1);
        due("14 on 2", x.on(2), 2);
        due("14 beyond", x.on(3), NONE);
        due("14 far beyond", x.on(HIGH), NONE);
        due("14 below", x.on(-2), NONE);
        due("14 low", x.on(LOW), NONE);
        due("14 comes to host 1", x.on(-1), 1);
        x.way(8, 0, 3);
        due("14 stays behind a refused way", x.on(1), 1);
        x.way(2, 0, 3);
        due("14 dropped", x.on(-1), 10);
        due("14 only two now", x.on(2), NONE);
        x.unplug(2, 3);
        due("14 the latest way stays", x.on(-1), 10);
        x.way(0, 0, 3);
        due("14 lost", x.on(-1), 11);
        x.strike(0, 2, 0);
        x.rule(0, 2, 0, 0, 0, 1);
        due("14 three till it would come again", x.way(0, 0, 3), 3);
        due("14 ring", x.on(-1), 12);
        due("14 the ring adds no switch", x.on(3), NONE);
        x.strike(0, 2, 0);
        x.rule(0, 2, 0, 0, 0, 0);
        due("14 ring to the one before", x.way(0, 0, 3) * 100 + x.on(-1), 312);
        CountedDesk y = new CountedDesk();
        y.net(2);
        for (int i = 0; i < 6; i++) {
            y.host(i / 4, i % 4);
        }
        y.rule(0, 1, 0, 0, 0, 1);
        y.way(0, 4, 0);
        due("14 comes to host 5", y.on(-1), 5);
    }

    // ---- promise 15 and term 2

    private static void holdsComesAndNever() {
        CountedDesk x = Scenes.triangle();
        x.rule(0, 1, 9, 15, 5, 4);
        x.want(0, 0, 0, 0, 1, 0);
        x.want(0, 8, 15, 0, 1, 0);
        x.want(0, 8, 14, 0, 1, 0);
        x.want(2, 0, 0, 0, 1, 0);
        x.want(2, 9, 15, 0, 1, 0);
        x.want(2, 0, 0, 0, 0, 0);
        x.want(0, 0, 0, 1, 1, 0);
        due("15 comes, for all marks", x.holds(0, 0), 0);
        due("15 comes, for one", x.holds(1, 0), 1);
        due("15 comes, for two", x.holds(2, 0), 0);
        due("15 comes by new", x.holds(0, 7), 1);
        due("15 never, but some do", x.holds(3, 0), 0);
        due("15 never, dropped", x.holds(4, 0), 1);
        due("15 never, but by new it does", x.holds(4, 1), 0);
        due("15 never to another", x.holds(5, 0), 1);
        due("15 comes to where it is from", x.holds(6, 0), 1);
        due("15 no want 7", x.holds(7, 0), NONE);
        due("15 no want -1", x.holds(-1, 0), NONE);
        due("15 no mixture 8", x.holds(0, 8), NONE);
        due("15 no mixture -1", x.holds(0, -1), NONE);
        due("15 low and high", x.holds(LOW, HIGH), NONE);
    }

    private static void holdsPastAndNoRing() {
        CountedDesk x = Scenes.triangle();
        x.want(3, 0, 0, 0, 1, 1);
        x.want(3, 0, 0, 0, 1, 0);
        x.want(3, 0, 0, 0, 1, 2);
        x.want(3, 0, 0, 0, 0, 1);
        x.want(1, 0, 0, 0, 0, 0);
        due("15 past 1", x.holds(0, 0), 1);
        due("15 not past 1", x.holds(0, 1), 0);
        due("15 past 1, does not come", x.holds(0, 2), 1);
        due("15 past the first", x.holds(1, 1), 1);
        due("15 past the last", x.holds(2, 1), 1);
        due("15 past, to another host", x.holds(3, 1), 1);
        due("15 no ring: comes", x.holds(4, 0), 1);
        due("15 no ring: dropped", x.holds(4, 2), 1);
        x.rule(1, 1, 3, 15, 0, 0);
        due("15 a ring", x.holds(4, 2), 0);
        x.rule(0, 0, 4, 15, 9, 3);
        x.want(1, 4, 15, 0, 0, 0);
        x.want(3, 4, 15, 0, 1, 2);
        due("15 no ring: lost", x.holds(5, 0), 1);
        due("15 past: lost", x.holds(6, 0), 1);
    }

    private static void holdsWhole() {
        CountedDesk x = Scenes.triangle();
        x.want(4, 0, 0, 0, 0, 0);
        due("15 whole, old", x.holds(0, 0), 1);
        due("15 whole, new", x.holds(0, 7), 1);
        due("15 whole, as new", x.holds(0, 1), 1);
        due("15 whole, as old", x.holds(0, 4), 1);
        due("15 whole, dropped on the way", x.holds(0, 2), 0);
        // The same end is not enough, nor is the same way.
        x.rule(1, 1, 0, 0, 1, 1);
        x.rule(0, 2, 5, 15, 9, 4);
        due("15 whole, the rows are these", x.look(5), 5);
        due("15 whole, mark 5 by old drops", x.holds(0, 0), 1);
        due("15 whole, neither way of both", x.holds(0, 1), 0);
        due("15 whole, the other mixture", x.holds(0, 4), 0);
        due("15 whole, least mark", x.why(4, 1), 5);
        due("15 whole, least mark of the first", x.why(1, 1), 5);
        x.net(2);
        x.link(0, 1, 1, 0);
        x.host(0, 0);
        x.host(1, 1);
        x.rule(0, 0, 0, 0, 0, 1);
        x.rule(0, 1, 0, 0, 0, 1);
        x.rule(1, 1, 0, 0, 0, 2);
        x.want(4, 0, 0, 0, 0, 0);
        due("15 the way of neither, same end as new", x.way(2, 0, 0) * 100 + x.on(-1), 211);
        due("15 so it does not hold", x.holds(0, 2), 0);
        due("15 but by each mark its own book", x.holds(0, 1), 1);
        x.net(2);
        x.link(0, 1, 1, 0);
        x.host(0, 0);
        x.host(1, 1);
        for (int mark = 0; mark < 2; mark++) {
            x.rule(0, mark, 0, 0, 1, 1);
            x.rule(1, mark, 0, 0, 1, 1);
        }
        x.rule(1, 0, 0, 1, 2, 4);
        x.rule(1, 1, 1, 1, 2, 4);
        x.want(4, 0, 0, 0, 0, 0);
        due("15 one mark by old, another by new", x.holds(0, 1), 1);
        holdsWholeBySwitches();
    }

    /** Ways of one length and one end, which a switch alone tells apart. */
    private static void holdsWholeBySwitches() {
        CountedDesk x = new CountedDesk();
        x.net(6);
        x.host(0, 0);
        for (int s = 1; s <= 3; s++) {
            x.link(0, s, s, 0);
            x.link(s, 1, 4, s - 1);
        }
        x.host(4, 3);
        x.rule(0, 0, 0, 0, 0, 1);
        x.rule(1, 0, 0, 0, 0, 2);
        for (int s = 1; s <= 3; s++) {
            x.rule(0, s, 0, 0, 0, 1);
            x.copy(s, true);
        }
        x.rule(0, 4, 0, 0, 0, 3);
        x.copy(4, true);
        x.want(4, 0, 0, 0, 0, 0);
        due("15 by 2 is as by new", x.holds(0, 1), 1);
        x.round(1);
        x.begin();
        x.send(0, 0);
        x.hop(0);
        x.hop(0);
        x.hop(0);
        due("30 by 1 is as by old", x.run(4), 0);
        // By old 0 drops; by new the way is 0, 1, 3; with 0 alone new it is 0, 1, 2.
        x.net(4);
        x.host(0, 0);
        x.link(0, 1, 1, 0);
        x.link(1, 1, 2, 0);
        x.link(1, 2, 3, 0);
        x.rule(0, 0, 0, 0, 0, 4);
        x.rule(1, 0, 0, 0, 0, 1);
        x.rule(0, 1, 0, 0, 0, 1);
        x.rule(1, 1, 0, 0, 0, 2);
        x.want(4, 0, 0, 0, 0, 0);
        due("15 by new 0, 1, 3", x.way(15, 0, 0) * 100 + x.on(-1), 310);
        due("15 mixed 0, 1, 2", x.way(1, 0, 0) * 100 + x.on(-1), 310);
        due("15 another switch on the way", x.holds(0, 1), 0);
    }

    // ---- promise 16

    private static void kept() {
        CountedDesk x = Scenes.triangle();
        x.want(0, 0, 0, 0, 1, 0);
        x.want(3, 0, 0, 0, 1, 1);
        x.want(2, 0, 0, 0, 1, 0);
        x.want(4, 0, 0, 0, 0, 0);
        due("16 holds with both", x.kept(0), 1);
        due("16 only with old", x.kept(1), 0);
        due("16 with none", x.kept(2), 0);
        due("16 whole always", x.kept(3), 1);
        due("16 no want 4", x.kept(4), NONE);
        due("16 no want -1", x.kept(-1), NONE);
        due("16 high", x.kept(HIGH), NONE);
        x.copy(0, false);
        due("16 by other rules", x.kept(1), 0);
        due("16 does not hold with old now", x.holds(1, 0), 0);
        x.rule(0, 0, 0, 0, 9, 1);
        x.rule(1, 0, 0, 0, 9, 4);
        x.unwant(0);
        due("16 want 1 is 0 now, and kept", x.kept(0), 1);
        due("16 comes no more by new", x.want(0, 0, 0, 0, 1, 0) * 10 + x.kept(3), 30);
    }

    // ---- promise 17

    private static void why() {
        CountedDesk x = Scenes.triangle();
        x.want(3, 0, 0, 0, 1, 1);
        x.want(0, 10, 10, 0, 1, 0);
        x.want(0, 3, 15, 0, 1, 0);
        due("17 the first kept one", x.why(2, 0), 1);
        due("17 its least mark", x.why(2, 1), 10);
        due("17 a want that is not kept does not count", x.why(1, 0), NONE);
        due("17 good", x.why(3, 0), NONE);
        due("17 good, mark", x.why(3, 1), NONE);
        due("17 with like switches", x.why(6, 0), 1);
        due("17 no mixture 8", x.why(8, 0), NONE);
        due("17 no mixture -1", x.why(-1, 0), NONE);
        due("17 another what", x.why(2, 2), NONE);
        due("17 another what below", x.why(2, -1), NONE);
        due("17 low", x.why(LOW, LOW), NONE);
        x.unwant(1);
        due("17 now the other", x.why(2, 0) * 100 + x.why(2, 1), 103);
        x.rule(1, 1, 0, 1, 5, 1);
        x.want(4, 0, 0, 0, 0, 0);
        due("17 first of two", x.why(2, 0), 1);
        x.unwant(1);
        due("17 whole, for odd marks", x.why(2, 0) * 100 + x.why(2, 1), 101);
    }

    // ---- promise 18

    private static void least() {
        CountedDesk x = Scenes.wantedTriangle();
        due("18 two rounds", x.least(), 2);
        due("18 0 first", x.plan(0), 1);
        due("18 then 1", x.plan(1), 2);
        due("18 no more", x.plan(2), NONE);
        due("18 whole", x.look(9), 1);
        x.begin();
        due("18 again", x.least(), 2);
        due("18 the run ends", x.run(0), NONE);
        x.unplug(0, 2);
        due("18 not kept any more", x.kept(0), 0);
        due("18 one round then", x.least(), 1);
        due("18 of both", x.plan(0), 3);
        CountedDesk y = Scenes.deadlock();
        y.round(2);
        due("18 none", y.least(), NONE);
        due("18 the plan stays", y.plan(0), 2);
        due("18 one round stays", y.look(8), 1);
        CountedDesk z = new CountedDesk();
        due("18 nothing unlike", z.least(), 0);
        CountedDesk w = Scenes.loose(7);
        w.round(5);
        due("18 all in one", w.least(), 1);
        due("18 127", w.plan(0), 127);
        CountedDesk v = Scenes.chain();
        due("18 seven rounds", v.least(), 7);
        for (int i = 0; i < 7; i++) {
            due("18 round " + i + " is from behind", v.plan(i), 1 << 6 - i);
        }
    }

    private static void leastOfSeveral() {
        // Hosts 0 and 1 on switches 0 and 1; only with 3 changed ahead of 0, and 3 ahead of 1.
        CountedDesk x = new CountedDesk();
        x.net(4);
        x.link(0, 1, 3, 0);
        x.host(0, 0);
        x.host(3, 3);
        x.rule(0, 0, 0, 0, 1, 0);
        x.rule(1, 0, 0, 0, 1, 1);
        x.rule(1, 3, 0, 0, 1, 3);
        x.rule(1, 1, 0, 0, 1, 4);
        x.rule(1, 2, 0, 0, 1, 4);
        x.want(4, 0, 0, 0, 0, 0);
        due("18 all four unlike", x.look(5), 15);
        due("18 two rounds, many such plans", x.least(), 2);
        due("18 the least first round", x.plan(0), 8);
        due("18 the rest", x.plan(1), 7);
        due("18 one in four mixtures is bad", x.look(7), 12);
        due("18 the other is taken too", roundsTaken(x, 15 - 1, 1), true);
        due("18 and one more", roundsTaken(x, 8 + 2, 1 + 4), true);
        due("18 not all at once", roundsTaken(x, 15), false);
        due("18 not 0 with 3", roundsTaken(x, 9, 6), false);
    }

    private static boolean roundsTaken(CountedDesk x, int... sets) {
        x.empty();
        boolean taken = true;
        for (int set : sets) {
            int count = x.round(set);
            taken &= x.mid(count - 1) == NONE;
        }
        return taken;
    }

    // ---- promise 19

    private static void orders() {
        due("19 none unlike", new CountedDesk().orders(), 1);
        int[] due = {1, 2, 6, 24, 120, 720, 5040};
        for (int n = 1; n <= 7; n++) {
            due("19 all of " + n, Scenes.loose(n).orders(), due[n - 1]);
        }
        due("19 one of two", Scenes.wantedTriangle().orders(), 1);
        due("19 both of two", Scenes.triangle().orders(), 2);
        due("19 none", Scenes.deadlock().orders(), 0);
        CountedDesk x = Scenes.wantedTriangle();
        x.round(2);
        x.begin();
        x.orders();
        due("19 the plan stays", x.plan(0), 2);
        due("19 the run stays", x.run(0), 0);
        CountedDesk y = Scenes.wantedTriangle();
        y.rule(1, 2, 15, 15, 0, 4);
        due("19 with a third at any place", y.orders(), 3);
    }

    // ---- promise 20

    private static void order() {
        CountedDesk x = Scenes.wantedTriangle();
        x.rule(1, 2, 15, 15, 0, 4);
        int[][] due = {{1, 2, 4}, {1, 4, 2}, {4, 1, 2}};
        for (int k = 0; k < 3; k++) {
            x.round(7);
            due("20 order " + k, x.order(k), true);
            due("20 three rounds", x.look(8), 3);
            for (int i = 0; i < 3; i++) {
                due("20 order " + k + ", round " + i, x.plan(i), due[k][i]);
            }
        }
        x.order(1);
        due("20 no order 3", x.order(3), false);
        due("20 no order -1", x.order(-1), false);
        due("20 high", x.order(HIGH), false);
        due("20 low", x.order(LOW), false);
        due("20 the plan stays", x.plan(1), 4);
        x.begin();
        due("20 order 0", x.order(0), true);
        due("20 the run ends", x.run(0), NONE);
        due("20 none unlike", new CountedDesk().order(0), true);
        due("20 none unlike, 1", new CountedDesk().order(1), false);
        due("20 none is safe", Scenes.deadlock().order(0), false);
        CountedDesk y = Scenes.loose(7);
        due("20 the last of 5040", y.order(5039), true);
        for (int i = 0; i < 7; i++) {
            due("20 from behind " + i, y.plan(i), 1 << 6 - i);
        }
        due("20 no 5040", y.order(5040), false);
        y.order(2 * 720 + 3 * 120 + 1);
        int[] rows = {4, 16, 1, 2, 8, 64, 32};
        for (int i = 0; i < 7; i++) {
            due("20 order 1801, round " + i, y.plan(i), rows[i]);
        }
    }

    // ---- promises 21 and 23

    private static void round() {
        CountedDesk x = Scenes.loose(5);
        x.copy(4, true);
        int[] no = {0, 16, 17, 32, 128, -1, LOW, HIGH};
        for (int set : no) {
            due("21 refused " + set, x.round(set), NONE);
        }
        due("21 no rounds", x.look(8), 0);
        due("21 first", x.round(6), 1);
        due("21 in a round already", x.round(2), NONE);
        due("21 one of them is", x.round(9 + 4), NONE);
        due("21 second", x.round(8), 2);
        x.begin();
        due("21 refused in a run", x.round(8), NONE);
        due("21 the run stays", x.run(0), 0);
        due("21 third", x.round(1), 3);
        due("21 the run ends", x.run(0), NONE);
        due("21 no more", x.round(1), NONE);
        due("23 round 0", x.plan(0), 6);
        due("23 round 1", x.plan(1), 8);
        due("23 round 2", x.plan(2), 1);
        due("23 no round 3", x.plan(3), NONE);
        due("23 no round -1", x.plan(-1), NONE);
        due("23 low", x.plan(LOW), NONE);
        due("23 high", x.plan(HIGH), NONE);
        CountedDesk y = Scenes.loose(7);
        for (int s = 6; s >= 0; s--) {
            due("21 seven rounds", y.round(1 << s), 7 - s);
        }
        due("23 the seventh", y.plan(6), 1);
    }

    // ---- promise 22

    private static void empty() {
        CountedDesk x = Scenes.triangle();
        x.round(3);
        x.begin();
        x.empty();
        due("22 no rounds", x.look(8), 0);
        due("22 no run", x.run(0), NONE);
        due("22 no plan", x.plan(0), NONE);
        due("22 not whole", x.look(9), 0);
        due("22 can't begin", x.begin(), false);
        due("22 its switches are free", x.round(3), 1);
        due("22 the rules stay", x.look(3), 5);
        x.empty();
        x.empty();
        due("22 twice", x.look(8), 0);
    }

    // ---- promise 24

    private static void mid() {
        CountedDesk x = Scenes.wantedTriangle();
        x.round(3);
        due("24 bad in the midst", x.mid(0), 2);
        due("24 no round 1", x.mid(1), NONE);
        due("24 no round -1", x.mid(-1), NONE);
        due("24 high", x.mid(HIGH), NONE);
        x.empty();
        due("24 no round 0", x.mid(0), NONE);
        x.round(1);
        x.round(2);
        due("24 taken", x.mid(0), NONE);
        due("24 taken too", x.mid(1), NONE);
        x.empty();
        x.round(2);
        x.round(1);
        due("24 with all of its own", x.mid(0), 2);
        due("24 with none of its own", x.mid(1), 2);
        CountedDesk y = Scenes.wantedTriangle();
        y.rule(1, 2, 15, 15, 0, 4);
        y.round(4);
        y.round(3);
        due("24 the rounds ahead count", y.mid(1), 6);
        due("24 the first is taken", y.mid(0), NONE);
        y.empty();
        y.round(6);
        due("24 the least", y.mid(0), 2);
    }

    // ---- promise 25

    private static void begin() {
        CountedDesk x = Scenes.triangle();
        due("25 no round", x.begin(), false);
        due("25 no run", x.run(0), NONE);
        x.round(1);
        due("25 begins, not whole", x.begin(), true);
        x.send(0, 0);
        x.hop(0);
        x.hop(0);
        x.hop(0);
        x.change(0);
        x.next();
        x.send(0, 0);
        due("25 is under way", x.run(0) * 100 + x.run(1) * 10 + x.run(2), 112);
        due("25 begins anew", x.begin(), true);
        for (int what = 0; what <= 4; what++) {
            due("25 run " + what, x.run(what), 0);
        }
        due("25 no packet", x.packet(0, 0), NONE);
        due("25 the plan stays", x.plan(0), 1);
        due("25 all old again", x.change(0), 0);
    }

    // ---- promise 26

    private static void send() {
        CountedDesk x = Scenes.triangle();
        due("26 no run", x.send(0, 0), NONE);
        x.round(3);
        due("26 a plan is no run", x.send(0, 0), NONE);
        x.begin();
        int[][] no = {{-1, 0}, {2, 0}, {0, -1}, {0, 16}, {LOW, LOW}, {HIGH, HIGH}};
        for (int[] c : no) {
            due("26 refused " + c[0] + ", " + c[1], x.send(c[0], c[1]), NONE);
        }
        due("26 none put in", x.run(2), 0);
        for (int k = 0; k < 40; k++) {
            due("26 packet " + k, x.send(k % 2, k % 16), k);
        }
        due("26 there are 40", x.send(0, 0), NONE);
        due("26 all under way", x.run(3), 40);
        due("26 at its switch", x.packet(39, 2), 2);
        due("26 its mark", x.packet(39, 1), 7);
        x.hop(1);
        due("26 an ended one counts too", x.send(0, 0), NONE);
        due("26 39 under way", x.run(3), 39);
    }

    // ---- promise 27

    private static void hop() {
        CountedDesk x = Scenes.triangle();
        due("27 no run", x.hop(0), NONE);
        x.round(3);
        x.begin();
        due("27 no packet", x.hop(0), NONE);
        x.send(0, 0);
        due("27 none such", x.hop(1), NONE);
        due("27 negative", x.hop(-1), NONE);
        due("27 high", x.hop(HIGH), NONE);
        due("27 to 1", x.hop(0), 1);
        due("27 to 2", x.hop(0), 2);
        due("27 comes to host 1", x.hop(0), 101);
        due("27 has ended", x.hop(0), NONE);
        due("27 none under way", x.run(3), 0);
        x.send(1, 0);
        due("27 comes to where it is from", x.hop(1), 101);
        x.strike(0, 2, 0);
        x.rule(0, 2, 0, 8, 0, 1);
        x.rule(0, 2, 12, 12, 0, 2);
        x.round(1);
        x.begin();
        int[][] ends = {{0, 112}, {8, 110}, {12, 111}};
        for (int k = 0; k < 3; k++) {
            due("27 packet " + k, x.send(0, ends[k][0]), k);
            due("27 goes on", x.hop(k), 1);
            due("27 goes on again", x.hop(k), 2);
            due("27 its end", x.hop(k), ends[k][1]);
            due("27 it has ended", x.hop(k), NONE);
            due("27 its way", x.packet(k, 4), 3);
        }
        x.send(0, 0);
        x.hop(3);
        x.empty();
        due("27 the run has ended", x.hop(3), NONE);
    }

    private static void hopByRulesOfNow() {
        CountedDesk x = Scenes.triangle();
        x.round(2);
        x.round(1);
        x.begin();
        x.send(0, 0);
        x.send(0, 0);
        due("27 by old", x.hop(0), 1);
        x.change(1);
        due("27 by new, at a switch that has changed", x.hop(0), 110);
        x.hop(1);
        x.hop(1);
        x.next();
        x.send(0, 0);
        due("27 round 1, 0 is still old", x.packet(2, 2), 0);
        x.change(0);
        due("27 now by new", x.hop(2), 2);
        due("27 to the host", x.hop(2), 101);
        // A ring that no mixture alone would make: the packet is behind switch 1 when that changes.
        CountedDesk y = new CountedDesk();
        y.net(2);
        y.link(0, 1, 1, 0);
        y.host(0, 0);
        y.host(1, 1);
        y.rule(0, 0, 0, 0, 0, 1);
        y.rule(0, 1, 0, 0, 0, 1);
        y.rule(1, 1, 0, 0, 0, 0);
        y.want(1, 0, 0, 0, 0, 0);
        due("27 no ring is kept", y.kept(0), 1);
        y.round(3);
        y.begin();
        y.send(0, 0);
        due("27 at 1", y.hop(0), 1);
        y.change(1);
        due("27 back to 0: a ring", y.hop(0), 112);
        due("27 that breaks the want", y.run(4), 1);
    }

    // ---- promise 28

    private static void change() {
        CountedDesk x = Scenes.loose(4);
        due("28 no run", x.change(0), NONE);
        x.round(11);
        x.round(4);
        x.begin();
        due("28 not of this round", x.change(2), NONE);
        due("28 no switch 4", x.change(4), NONE);
        due("28 no switch -1", x.change(-1), NONE);
        due("28 no switch 32", x.change(32), NONE);
        due("28 low", x.change(LOW), NONE);
        due("28 high", x.change(HIGH), NONE);
        due("28 none has changed", x.run(1), 0);
        due("28 first", x.change(1), 2);
        due("28 has changed", x.change(1), NONE);
        due("28 second", x.change(3), 1);
        due("28 third", x.change(0), 0);
        due("28 not the next round's", x.change(2), NONE);
        x.next();
        due("28 not an earlier one's", x.change(0), NONE);
        due("28 the next round's", x.change(2), 0);
        due("28 all", x.run(1), 15);
        x.next();
        due("28 all rounds are done", x.change(2), NONE);
        due("28 and this", x.change(0), NONE);
    }

    // ---- promise 29

    private static void next() {
        CountedDesk x = Scenes.triangle();
        due("29 no run", x.next(), NONE);
        x.round(3);
        x.begin();
        due("29 none has changed", x.next(), NONE);
        x.change(0);
        due("29 one is left", x.next(), NONE);
        x.send(0, 0);
        x.change(1);
        due("29 a packet is under way", x.next(), NONE);
        due("29 round 0 still", x.run(0), 0);
        x.hop(0);
        due("29 it is still", x.next(), NONE);
        x.hop(0);
        due("29 behind the last", x.next(), 1);
        due("29 all are done", x.next(), NONE);
        due("29 stays", x.run(0), 1);
        due("29 the run goes on", x.send(0, 0), 1);
        due("29 by new", x.hop(1), 2);
        x.empty();
        x.round(2);
        x.round(1);
        x.begin();
        x.change(1);
        due("29 round 1", x.next(), 1);
        due("29 round 1 is not done", x.next(), NONE);
        x.change(0);
        due("29 behind both", x.next(), 2);
        due("29 no more", x.next(), NONE);
    }

    // ---- term 3 and promise 30, what 4

    private static void brokenWants() {
        CountedDesk x = Scenes.triangle();
        x.want(0, 0, 1, 0, 1, 0);
        x.want(0, 0, 0, 0, 1, 0);
        x.want(4, 0, 0, 0, 0, 0);
        x.want(3, 0, 0, 0, 1, 1);
        x.want(0, 0, 0, 1, 1, 0);
        x.want(2, 0, 0, 0, 0, 0);
        x.round(2);
        x.begin();
        x.change(1);
        x.send(0, 1);
        x.hop(0);
        due("30 not before it has ended", x.run(4), 0);
        x.hop(0);
        due("30 comes and whole", x.run(4), 2);
        x.send(0, 2);
        x.hop(1);
        x.hop(1);
        due("30 each packet and want", x.run(4), 5);
        x.send(1, 2);
        x.hop(2);
        due("30 from another host, as wanted", x.run(4), 5);
        x.begin();
        due("30 none again", x.run(4), 0);
        x.send(0, 0);
        x.hop(0);
        x.hop(0);
        x.hop(0);
        due("30 by old breaks none", x.run(4), 0);
        x.send(0, 0);
        x.hop(1);
        x.hop(1);
        x.change(1);
        x.hop(1);
        due("30 past the change already", x.run(4), 0);
        CountedDesk y = Scenes.triangle();
        y.want(3, 0, 0, 0, 1, 1);
        y.round(1);
        y.begin();
        y.change(0);
        y.send(0, 0);
        y.hop(0);
        y.hop(0);
        due("30 one that is not kept is not broken", y.run(4), 0);
        brokenPast();
    }

    /** A packet that comes past 1 by no mixture: PAST, NEVER and WHOLE are judged by its own way. */
    private static void brokenPast() {
        CountedDesk x = new CountedDesk();
        x.net(3);
        x.link(0, 1, 1, 0);
        x.link(0, 2, 2, 0);
        x.link(1, 2, 2, 1);
        x.host(0, 0);
        x.host(2, 3);
        x.rule(0, 0, 0, 0, 0, 2);
        x.rule(0, 2, 0, 0, 0, 4);
        x.rule(1, 0, 0, 0, 0, 1);
        x.rule(1, 1, 0, 0, 0, 2);
        x.rule(1, 2, 0, 0, 0, 3);
        x.want(3, 0, 0, 0, 1, 1);
        x.want(4, 0, 0, 0, 0, 0);
        x.want(2, 7, 15, 0, 0, 0);
        due("30 past is kept", x.kept(0), 1);
        x.round(7);
        x.begin();
        x.send(0, 7);
        x.hop(0);
        x.change(2);
        due("30 comes to 1, not past 1", x.hop(0), 101);
        due("30 past and whole are broken", x.run(4), 2);
    }

    // ---- promise 30

    private static void run() {
        CountedDesk x = Scenes.triangle();
        due("30 no run", x.run(0), NONE);
        x.round(2);
        x.round(1);
        due("30 a plan is no run", x.run(0), NONE);
        x.begin();
        x.change(1);
        x.next();
        x.send(0, 0);
        x.send(1, 0);
        x.send(0, 0);
        x.hop(1);
        due("30 round", x.run(0), 1);
        due("30 changed", x.run(1), 2);
        due("30 put in", x.run(2), 3);
        due("30 under way", x.run(3), 2);
        due("30 broken", x.run(4), 0);
        due("30 another what", x.run(5), NONE);
        due("30 another what below", x.run(-1), NONE);
        due("30 low", x.run(LOW), NONE);
    }

    // ---- promise 31

    private static void packet() {
        CountedDesk x = Scenes.triangle();
        due("31 no run", x.packet(0, 0), NONE);
        x.round(3);
        x.begin();
        due("31 no packet", x.packet(0, 0), NONE);
        x.send(1, 3);
        x.send(0, 9);
        due("31 its host", x.packet(0, 0), 1);
        due("31 its mark", x.packet(1, 1), 9);
        due("31 at", x.packet(1, 2), 0);
        due("31 no end", x.packet(1, 3), NONE);
        due("31 one switch", x.packet(1, 4), 1);
        due("31 the first", x.packet(1, 100), 0);
        due("31 no second", x.packet(1, 101), NONE);
        x.hop(1);
        due("31 at 1", x.packet(1, 2), 1);
        due("31 two switches", x.packet(1, 4), 2);
        due("31 the second", x.packet(1, 101), 1);
        x.hop(1);
        x.hop(1);
        due("31 at none", x.packet(1, 2), NONE);
        due("31 its end", x.packet(1, 3), 1);
        due("31 three switches", x.packet(1, 4), 3);
        due("31 the third", x.packet(1, 102), 2);
        due("31 no fourth", x.packet(1, 103), NONE);
        due("31 its host stays", x.packet(1, 0), 0);
        int[] no = {-1, 5, 99, 107, LOW, HIGH, LOW + 100, LOW + 99};
        for (int what : no) {
            due("31 another what " + what, x.packet(1, what), NONE);
        }
        int[] none = {-1, 2, 39, 40, LOW, HIGH};
        for (int k : none) {
            due("31 no packet " + k, x.packet(k, 0), NONE);
        }
        x.empty();
        due("31 the run has ended", x.packet(0, 0), NONE);
    }

    // ---- term 2, its last line

    private static void whatEndsARun() {
        for (int i = 0; i < 24; i++) {
            CountedDesk x = Scenes.wantedTriangle();
            x.round(1);
            x.begin();
            boolean ends = i < 9;
            int answer = act(x, i);
            due("t2 act " + i + " answers", answer != NONE, i < 15 && i != 14);
            due("t2 act " + i + " and the plan", x.look(8), ends ? 0 : 1);
            due("t2 act " + i + " and the run", x.run(0), ends ? NONE : 0);
        }
    }

    /** The first nine change something; those up to 13 only look; the others are refused. */
    private static int act(CountedDesk x, int i) {
        switch (i) {
            case 0: return x.net(3) ? 1 : NONE;
            case 1: return x.link(0, 3, 1, 3) ? 1 : NONE;
            case 2: return x.host(1, 2);
            case 3: return x.unplug(0, 2) ? 1 : NONE;
            case 4: return x.rule(0, 2, 0, 0, 0, 0);
            case 5: return x.strike(1, 2, 0);
            case 6: return x.copy(1, true);
            case 7: return x.want(1, 0, 0, 0, 0, 0);
            case 8: return x.unwant(0);
            case 9: return x.way(0, 0, 0);
            case 10: return x.holds(0, 0);
            case 11: return x.why(2, 0);
            case 12: return x.orders();
            case 13: return x.look(7);
            case 14: return x.net(0) ? 1 : NONE;
            case 15: return x.link(0, 1, 1, 3) ? 1 : NONE;
            case 16: return x.host(0, 0);
            case 17: return x.unplug(0, 0) ? 1 : NONE;
            case 18: return x.rule(0, 0, 0, 0, 0, 5);
            case 19: return x.strike(0, 0, 1);
            case 20: return x.copy(3, true);
            case 21: return x.want(0, 0, 0, 0, 2, 0);
            case 22: return x.unwant(1);
            default: return x.round(1);
        }
    }

    // ---- all limits at once

    private static void fullDesk() {
        CountedDesk x = new CountedDesk();
        x.net(7);
        for (int s = 0; s < 7; s++) {
            x.link(s, 0, (s + 1) % 7, 1);
        }
        for (int h = 0; h < 6; h++) {
            due("full host " + h, x.host(h, 2), h);
        }
        for (int i = 0; i < 84; i++) {
            due("full rule " + i, x.rule(i % 2, i / 12, i % 16, 15, 9, i % 12 / 2 % 2 * 2), 1 + i % 12 / 2);
        }
        for (int i = 0; i < 10; i++) {
            due("full want " + i, x.want(4 - i % 5, 0, 0, i % 5, (i + 1) % 5, 6), i);
        }
        due("full rules", x.look(3), 84);
        due("full: a row takes no more", x.rule(1, 6, 0, 0, 0, 0), NONE);
        due("full: strike the last", x.strike(1, 6, 5), 5);
        due("full: and put it back", x.rule(1, 6, 15, 15, 9, 0), 6);
        due("full: copy", x.copy(0, true), 6);
        due("full: host 5 is wanted by none", x.unplug(5, 2), true);
        due("full: again", x.host(5, 2), 5);
        due("full: whole is kept", x.kept(0) * 10 + x.kept(5), 11);
        due("full: no want 10", x.kept(10), NONE);
        due("full: why", x.why(127, 0), NONE);
        due("full: unlike", x.look(5), 126);
        x.round(126);
        x.begin();
        for (int k = 0; k < 40; k++) {
            due("full packet " + k, x.send(k % 6, k % 16), k);
            x.hop(k);
        }
        due("full: no packet 40", x.packet(40, 0), NONE);
        due("full: a want goes", x.unwant(9), 9);
    }

    // ---- no call throws, whatever it is given

    private static void wrongInputsEverywhere() {
        int[] odd = {LOW, LOW + 1, -129, -100, -2, -1, 7, 16, 31, 32, 33, 64, 100, 107, 127, 128, 1000, HIGH - 1, HIGH};
        for (int a : odd) {
            for (int b : odd) {
                CountedDesk x = Scenes.wantedTriangle();
                x.least();
                x.begin();
                x.send(0, 0);
                x.link(a, b, 1, 3);
                x.link(1, 3, a, b);
                x.host(a, b);
                x.unplug(a, b);
                x.rule(a, b, 0, 0, 0, 0);
                x.rule(0, 0, a, b, -1, 0);
                x.rule(0, 0, 0, 0, a, b);
                x.strike(a, b, 0);
                x.strike(0, a, b);
                x.strike(0, 0, a < 0 ? a : b);
                x.copy(Math.max(a, 3), b > 0);
                x.want(a, 0, b, 0, 0, 0);
                x.want(3, 0, 0, a, b, 0);
                x.want(3, 0, 0, 0, a, b);
                x.unwant(a);
                x.look(a);
                x.ofClass(a);
                x.way(a, b, 0);
                x.way(0, a, b);
                x.on(a);
                x.holds(a, b);
                x.holds(0, a);
                x.kept(a);
                x.why(a, b);
                x.why(2, b);
                x.order(a);
                x.plan(a);
                x.mid(a);
                x.send(a, b);
                x.hop(a);
                x.change(a);
                x.run(a);
                x.packet(a, b);
                x.packet(0, b);
                x.net(a == 7 ? 8 : a);
                due("odd inputs " + a + ", " + b, x.look(0) * 10 + x.look(1), 32);
            }
        }
    }
}
