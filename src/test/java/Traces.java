import java.util.ArrayList;
import java.util.IdentityHashMap;
import java.util.List;
import java.util.Map;
import java.util.TreeSet;
import java.util.function.Predicate;
import java.util.function.Supplier;
import java.util.function.ToIntFunction;

/**
 * A refused call does nothing: of two desks made alike the one with the call and the one without it
 * answer all later calls alike.
 */
final class Traces {
    /** A call with a number that the test chooses. */
    interface CallWith {
        int make(CountedDesk x, int number);
    }

    /** The same for a call that answers yes or no. */
    interface AskWith {
        boolean make(CountedDesk x, int number);
    }

    /** Later calls, whose answers tell what an earlier one did. */
    private interface Later {
        void ask(CountedDesk x, List<Integer> answers);
    }

    private static final Later[] LATER = {Traces::looks, Traces::goesOn, Traces::unplugsAll, Traces::plugsAll,
        Traces::strikesAll, Traces::unwantsAll, Traces::wantsMore, Traces::plans};
    private static final String[] NAMES = {"looks", "goesOn", "unplugsAll", "plugsAll",
        "strikesAll", "unwantsAll", "wantsMore", "plans"};
    private static final Map<Supplier<CountedDesk>, List<List<Integer>>> WITHOUT = new IdentityHashMap<>();

    private Traces() {
    }

    /** The call answers NONE and does nothing. */
    static void none(String what, Supplier<CountedDesk> scene, ToIntFunction<CountedDesk> call) {
        refused(what, scene, call, RuleChangeDesk.NONE);
    }

    /** The call answers false and does nothing. */
    static void no(String what, Supplier<CountedDesk> scene, Predicate<CountedDesk> call) {
        refused(what, scene, x -> call.test(x) ? 1 : 0, 0);
    }

    /** The call answers NONE and does nothing for each number that is not least .. greatest. */
    static void noneOutside(String what, Supplier<CountedDesk> scene, int least, int greatest, CallWith call) {
        for (int number : outside(least, greatest)) {
            none(what + " " + number, scene, x -> call.make(x, number));
        }
    }

    /** The call answers false and does nothing for each number that is not least .. greatest. */
    static void noOutside(String what, Supplier<CountedDesk> scene, int least, int greatest, AskWith call) {
        for (int number : outside(least, greatest)) {
            no(what + " " + number, scene, x -> call.make(x, number));
        }
    }

    /**
     * Numbers beside least .. greatest, the least and the greatest int, and those that a shift, a mask
     * or a product that wraps around would take for allowed ones.
     */
    static int[] outside(int least, int greatest) {
        TreeSet<Integer> found = new TreeSet<>(List.of(least - 1, least - 2, greatest + 1, greatest + 2,
                Integer.MIN_VALUE, Integer.MIN_VALUE + 1, Integer.MAX_VALUE - 1, Integer.MAX_VALUE));
        int[] powers = {2, 3, 4, 5, 6, 7, 8, 16, 29, 30, 31};
        for (int power : powers) {
            found.add(least + (1 << power));
            found.add(least - (1 << power));
            found.add(greatest + (1 << power));
            found.add(greatest - (1 << power));
        }
        return found.stream().filter(i -> i < least || i > greatest).mapToInt(i -> i).toArray();
    }

    private static void refused(String what, Supplier<CountedDesk> scene, ToIntFunction<CountedDesk> call, int due) {
        List<List<Integer>> without = WITHOUT.computeIfAbsent(scene, Traces::answersWithout);
        for (int i = 0; i < LATER.length; i++) {
            CountedDesk x = scene.get();
            Check.due(what, call.applyAsInt(x), due);
            List<Integer> answers = new ArrayList<>();
            LATER[i].ask(x, answers);
            if (!answers.equals(without.get(i))) {
                Check.wrong(what + ": it did something, as answer " + firstUnlike(answers, without.get(i)) + " of "
                        + NAMES[i] + " behind it tells");
            }
        }
    }

    private static List<List<Integer>> answersWithout(Supplier<CountedDesk> scene) {
        List<List<Integer>> all = new ArrayList<>();
        for (Later later : LATER) {
            List<Integer> answers = new ArrayList<>();
            later.ask(scene.get(), answers);
            all.add(answers);
        }
        return all;
    }

    private static int firstUnlike(List<Integer> one, List<Integer> other) {
        for (int i = 0; i < one.size(); i++) {
            if (!one.get(i).equals(other.get(i))) {
                return i;
            }
        }
        return one.size();
    }

    private static int bit(boolean answer) {
        return answer ? 1 : 0;
    }

    // ---- later calls, each row of them short enough for a full desk's 512 calls

    private static void looks(CountedDesk x, List<Integer> answers) {
        looksAtPlanAndRun(x, answers);
        for (int what = 0; what <= 7; what++) {
            answers.add(x.look(what));
        }
        for (int mark = 0; mark < 16; mark++) {
            answers.add(x.ofClass(mark));
        }
        for (int i = -1; i <= 7; i++) {
            answers.add(x.on(i));
        }
        int all = (1 << x.look(0)) - 1;
        int[] mixtures = {0, 1, 2, 3, 8, 9, 11, all};
        for (int mixture : mixtures) {
            answers.add(x.why(mixture, 0));
            answers.add(x.why(mixture, 1));
            for (int want = 0; want < 10; want++) {
                answers.add(x.holds(want, mixture));
            }
        }
        for (int want = 0; want < 10; want++) {
            answers.add(x.kept(want));
        }
        int[] packets = {0, 1, 2, 3, 39};
        int[] whats = {0, 1, 2, 3, 4, 100, 101, 102};
        for (int k : packets) {
            for (int what : whats) {
                answers.add(x.packet(k, what));
            }
        }
    }

    private static void looksAtPlanAndRun(CountedDesk x, List<Integer> answers) {
        answers.add(x.look(8));
        answers.add(x.look(9));
        for (int i = 0; i < 7; i++) {
            answers.add(x.plan(i));
            answers.add(x.mid(i));
        }
        for (int what = 0; what <= 4; what++) {
            answers.add(x.run(what));
        }
    }

    private static void goesOn(CountedDesk x, List<Integer> answers) {
        answers.add(x.send(0, 5));
        answers.add(x.send(1, 9));
        for (int round = 0; round < 2; round++) {
            for (int s = 0; s < 7; s++) {
                answers.add(x.change(s));
            }
            answers.add(x.next());
            for (int i = 0; i < 7; i++) {
                for (int k = 0; k < 8; k++) {
                    answers.add(x.hop(k));
                }
            }
            answers.add(x.next());
            looksAtPlanAndRun(x, answers);
        }
        for (int k = 0; k < 42; k++) {
            answers.add(x.send(k % 7, k % 16));
        }
        looksAtPlanAndRun(x, answers);
    }

    private static void unplugsAll(CountedDesk x, List<Integer> answers) {
        for (int round = 0; round < 3; round++) {
            for (int s = 6; s >= 0; s--) {
                for (int p = 3; p >= 0; p--) {
                    answers.add(bit(x.unplug(s, p)));
                }
            }
            answers.add(x.look(1));
            answers.add(x.look(2));
        }
        answers.add(x.host(0, 0));
    }

    private static void plugsAll(CountedDesk x, List<Integer> answers) {
        answers.add(bit(x.link(1, 2, 3, 2)));
        for (int s = 0; s < 7; s++) {
            for (int p = 0; p < 4; p++) {
                answers.add(x.host(s, p));
            }
        }
        for (int s = 0; s < 7; s++) {
            for (int p = 0; p < 4; p++) {
                answers.add(bit(x.link(s, p, (s + 1) % 7, p)));
                answers.add(bit(x.link(s, p, (s + 2) % 7, 3 - p)));
            }
        }
        answers.add(x.look(1));
        answers.add(x.look(2));
        for (int h = 0; h < 6; h++) {
            for (int mark = 0; mark < 16; mark += 3) {
                answers.add(x.way(1, h, mark));
                answers.add(x.on(-1));
            }
        }
    }

    private static void strikesAll(CountedDesk x, List<Integer> answers) {
        int all = (1 << x.look(0)) - 1;
        for (int mark = 0; mark < 16; mark++) {
            for (int h = 0; h < 2; h++) {
                answers.add(x.way(mark % 2 == 0 ? 0 : all, h, mark));
                answers.add(x.on(-1));
                answers.add(x.on(1));
            }
        }
        for (int s = 0; s < 7; s++) {
            for (int book = 0; book < 2; book++) {
                for (int i = 0; i < 7; i++) {
                    answers.add(x.strike(book, s, 0));
                }
                answers.add(x.rule(book, s, s + book, 15, 3, 3));
                answers.add(x.ofClass(15));
                answers.add(x.look(5));
            }
            answers.add(x.copy(s, s % 2 == 0));
        }
        answers.add(x.look(3));
    }

    private static void unwantsAll(CountedDesk x, List<Integer> answers) {
        for (int i = 0; i < 11; i++) {
            for (int mixture = 0; mixture < 16; mixture++) {
                answers.add(x.holds(0, mixture));
            }
            answers.add(x.kept(0));
            answers.add(x.look(7));
            answers.add(x.unwant(0));
        }
    }

    private static void wantsMore(CountedDesk x, List<Integer> answers) {
        for (int i = 0; i < 11; i++) {
            answers.add(x.want(i % 5, 3 * i, 7, 0, 1, i % 3));
            answers.add(x.kept(i));
            answers.add(x.look(7));
        }
        for (int i = 9; i >= 0; i--) {
            for (int mixture = 0; mixture < 16; mixture++) {
                answers.add(x.holds(i, mixture));
            }
        }
        answers.add(x.unwant(4));
        answers.add(x.unwant(9));
    }

    private static void plans(CountedDesk x, List<Integer> answers) {
        for (int s = 0; s < 7; s++) {
            answers.add(x.round(1 << s));
        }
        looksAtPlanAndRun(x, answers);
        int count = x.orders();
        answers.add(count);
        int[] orders = {0, 1, count - 1, count};
        for (int k : orders) {
            answers.add(bit(x.order(k)));
            looksAtPlanAndRun(x, answers);
        }
        answers.add(x.least());
        looksAtPlanAndRun(x, answers);
        answers.add(bit(x.begin()));
        looksAtPlanAndRun(x, answers);
        x.empty();
        answers.add(x.round(x.look(5)));
        answers.add(bit(x.begin()));
        looksAtPlanAndRun(x, answers);
    }
}
