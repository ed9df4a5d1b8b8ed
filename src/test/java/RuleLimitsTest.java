import java.util.function.Supplier;

/** Promises 6 to 8, 12 and what terms 1 say of rules, at their limits; above each test its sentence. */
public final class RuleLimitsTest {
    private static final int NONE = RuleChangeDesk.NONE;

    private RuleLimitsTest() {
    }

    public static void main(String[] args) {
        ruleRefusesNoSuchBook();
        ruleRefusesNoSuchSwitch();
        ruleRefusesNoSuchSpan();
        ruleRefusesNoSuchRank();
        ruleRefusesNoSuchAct();
        ruleRefusesTheSeventh();
        ruleTakesEachAllowedNumber();
        rowsHaveRoomOfTheirOwn();
        aSpanHasWhatIsAlikeInItsBits();
        theHighestRankActs();
        ofOneRankTheFirstActs();
        anActSendsToItsPort();
        withoutARuleItIsDropped();
        strikeRefusesWhatThereIsNot();
        strikeRefusesAnEmptyRow();
        strikeTakesFirstMiddleAndLast();
        copyRefusesNoSuchSwitch();
        copyOfEmptyAndFullRows();
        copyOfOneSwitchAlone();
        unlikeRuleByRule();
        unlikeOfNoneAndOfAll();
        classRefusesNoMark();
        classesFromOneToSixteen();
        classesAreNumberedByTheirLeastMarks();
        Check.finish();
    }

    // ---- promise 6: "NONE, and nothing is done: no such BOOK, SWITCH, SPAN, RANK, ACT, or there are 6"

    private static void ruleRefusesNoSuchBook() {
        Traces.noneOutside("6 book", Scenes.BUSY, 0, 1, (x, book) -> x.rule(book, 1, 0, 0, 1, 1));
        Traces.noneOutside("6 book, fresh", Scenes.FRESH, 0, 1, (x, book) -> x.rule(book, 0, 0, 0, 0, 0));
    }

    private static void ruleRefusesNoSuchSwitch() {
        Traces.noneOutside("6 switch, old", Scenes.BUSY, 0, 3, (x, s) -> x.rule(0, s, 0, 0, 1, 1));
        Traces.noneOutside("6 switch, new", Scenes.BUSY, 0, 3, (x, s) -> x.rule(1, s, 0, 0, 1, 1));
    }

    private static void ruleRefusesNoSuchSpan() {
        Traces.noneOutside("6 value", Scenes.BUSY, 0, 15, (x, value) -> x.rule(1, 1, value, 0, 1, 1));
        Traces.noneOutside("6 value, all bits", Scenes.BUSY, 0, 15, (x, value) -> x.rule(0, 1, value, 15, 9, 1));
        Traces.noneOutside("6 bits", Scenes.BUSY, 0, 15, (x, bits) -> x.rule(1, 1, 0, bits, 1, 1));
        Traces.noneOutside("6 bits, value 15", Scenes.BUSY, 0, 15, (x, bits) -> x.rule(0, 1, 15, bits, 9, 1));
    }

    private static void ruleRefusesNoSuchRank() {
        Traces.noneOutside("6 rank", Scenes.BUSY, 0, 9, (x, rank) -> x.rule(1, 1, 0, 0, rank, 1));
        Traces.noneOutside("6 rank, old", Scenes.BUSY, 0, 9, (x, rank) -> x.rule(0, 1, 0, 0, rank, 4));
    }

    private static void ruleRefusesNoSuchAct() {
        Traces.noneOutside("6 act", Scenes.BUSY, 0, 4, (x, act) -> x.rule(1, 1, 0, 0, 9, act));
        Traces.noneOutside("6 act, old", Scenes.BUSY, 0, 4, (x, act) -> x.rule(0, 1, 0, 0, 9, act));
    }

    private static void ruleRefusesTheSeventh() {
        for (int s = 0; s < 7; s++) {
            for (int book = 0; book < 2; book++) {
                int of = s;
                int in = book;
                Traces.none("6 a seventh of " + s + " in " + book, Scenes.FULL, x -> x.rule(in, of, 0, 0, 9, 4));
                CountedDesk x = Scenes.FULL.get();
                Check.due("6 the last goes", x.strike(book, s, 5), 5);
                Check.due("6 there is a place again", x.rule(book, s, 15, 15, 0, 0), 6);
                Check.due("6 but one alone", x.rule(book, s, 15, 15, 0, 0), NONE);
                Check.due("6 84 in all", x.look(3), 84);
            }
        }
    }

    // "A RULE comes behind the others of SWITCH s in a BOOK: how many it has there."
    private static void ruleTakesEachAllowedNumber() {
        int[] greatest = {1, 3, 15, 15, 9, 4};
        for (int place = 0; place < 6; place++) {
            for (int number = 0; number <= greatest[place]; number++) {
                CountedDesk x = new CountedDesk();
                x.net(4);
                int[] r = {0, 0, 0, 0, 0, 0};
                r[place] = number;
                String what = "6 number " + number + " at place " + place;
                Check.due(what, x.rule(r[0], r[1], r[2], r[3], r[4], r[5]), 1);
                Check.due(what + " once more", x.rule(r[0], r[1], r[2], r[3], r[4], r[5]), 2);
                Check.due(what + " in all", x.look(3), 2);
                Check.due(what + " unlike", x.look(5), 1 << r[1]);
            }
        }
    }

    private static void rowsHaveRoomOfTheirOwn() {
        CountedDesk x = new CountedDesk();
        x.net(7);
        for (int s = 6; s >= 0; s--) {
            for (int book = 1; book >= 0; book--) {
                for (int i = 1; i <= 6; i++) {
                    Check.due("6 rule " + i + " of " + s + " in " + book, x.rule(book, s, 0, 0, 0, 0), i);
                }
                Check.due("6 no seventh of " + s + " in " + book, x.rule(book, s, 0, 0, 0, 0), NONE);
            }
        }
        Check.due("6 all are full", x.look(3), 84);
    }

    // ---- terms 1

    // "A SPAN (VALUE, BITS; each 0 .. 15) has the MARKS m for which m and VALUE are alike in all BITS that are 1."
    private static void aSpanHasWhatIsAlikeInItsBits() {
        for (int value = 0; value < 16; value++) {
            for (int bits = 0; bits < 16; bits++) {
                CountedDesk x = new CountedDesk();
                x.host(0, 0);
                x.rule(0, 0, value, bits, 0, 0);
                for (int mark = 0; mark < 16; mark++) {
                    boolean alike = true;
                    for (int bit = 0; bit < 4; bit++) {
                        alike &= (bits >> bit) % 2 == 0 || (mark >> bit) % 2 == (value >> bit) % 2;
                    }
                    Check.due("t1 span " + value + ", " + bits + ", mark " + mark, end(x, 0, 0, mark), alike ? 0 : 10);
                }
            }
        }
    }

    private static int end(CountedDesk x, int mixture, int host, int mark) {
        x.way(mixture, host, mark);
        return x.on(NONE);
    }

    // "Of those that have a packet's MARK the one of the highest RANK acts"
    private static void theHighestRankActs() {
        for (int high = 1; high <= 9; high++) {
            for (int low = 0; low < high; low++) {
                CountedDesk x = oneSwitch();
                x.rule(0, 0, 0, 0, low, 1);
                x.rule(0, 0, 0, 0, high, 2);
                x.rule(0, 0, 0, 15, 9, 3);
                x.rule(1, 0, 0, 0, high, 2);
                x.rule(1, 0, 0, 0, low, 1);
                x.rule(1, 0, 0, 15, 9, 3);
                Check.due("t1 rank " + high + " behind " + low, end(x, 0, 0, 5), 2);
                Check.due("t1 rank " + high + " ahead of " + low, end(x, 1, 0, 5), 2);
            }
        }
    }

    // "of several the first"
    private static void ofOneRankTheFirstActs() {
        for (int rank = 0; rank <= 9; rank++) {
            CountedDesk x = oneSwitch();
            x.rule(0, 0, 0, 15, 9, 3);
            for (int i = 0; i < 5; i++) {
                x.rule(0, 0, 5, 15, rank, i % 4);
            }
            Check.due("t1 the first of rank " + rank, end(x, 0, 0, 5), 0);
            x.strike(0, 0, 1);
            Check.due("t1 the second of rank " + rank, end(x, 0, 0, 5), 1);
            x.strike(0, 0, 1);
            x.strike(0, 0, 1);
            x.strike(0, 0, 1);
            Check.due("t1 the last of rank " + rank, end(x, 0, 0, 5), 0);
        }
        CountedDesk x = oneSwitch();
        for (int i = 0; i < 5; i++) {
            x.rule(0, 0, 0, 0, i, 1);
        }
        x.rule(0, 0, 0, 0, 9, 2);
        Check.due("t1 the sixth rule acts too", end(x, 0, 0, 5), 2);
    }

    /** One switch with a host at each port. */
    private static CountedDesk oneSwitch() {
        CountedDesk x = new CountedDesk();
        for (int p = 0; p < 4; p++) {
            x.host(0, p);
        }
        return x;
    }

    // "an ACT: 0 .. 3 SEND to that PORT, 4 DROP"
    private static void anActSendsToItsPort() {
        for (int act = 0; act <= 4; act++) {
            CountedDesk x = oneSwitch();
            x.rule(0, 0, 0, 0, 0, act);
            x.rule(1, 0, 0, 0, 0, (act + 1) % 5);
            Check.due("t1 old act " + act, end(x, 0, 3, 15), act == 4 ? 10 : act);
            Check.due("t1 new act " + (act + 1) % 5, end(x, 1, 3, 15), act == 3 ? 10 : (act + 1) % 5);
            CountedDesk y = new CountedDesk();
            y.host(0, (act + 1) % 4);
            y.rule(0, 0, 0, 0, 0, act);
            Check.due("t1 act " + act + " to nothing", end(y, 0, 0, 15), act == 4 ? 10 : 11);
        }
    }

    // "without one the packet is DROPPED"
    private static void withoutARuleItIsDropped() {
        CountedDesk x = oneSwitch();
        for (int i = 0; i < 6; i++) {
            x.rule(0, 0, 2 * i, 15, 9, 0);
        }
        for (int mark = 0; mark < 16; mark++) {
            boolean has = mark % 2 == 0 && mark < 12;
            Check.due("t1 mark " + mark + ", six rules", end(x, 0, 1, mark), has ? 0 : 10);
            Check.due("t1 mark " + mark + ", no rules", end(x, 1, 1, mark), 10);
        }
    }

    // ---- promise 7: "RULE i of SWITCH s in a BOOK goes: how many are left; NONE if there is none such."

    private static void strikeRefusesWhatThereIsNot() {
        Traces.noneOutside("7 book", Scenes.BUSY, 0, 1, (x, book) -> x.strike(book, 2, 0));
        Traces.noneOutside("7 switch, old", Scenes.BUSY, 0, 3, (x, s) -> x.strike(0, s, 0));
        Traces.noneOutside("7 switch, new", Scenes.BUSY, 0, 3, (x, s) -> x.strike(1, s, 0));
        Traces.noneOutside("7 rule of one", Scenes.BUSY, 0, 0, (x, i) -> x.strike(0, 0, i));
        Traces.noneOutside("7 rule of two", Scenes.BUSY, 0, 1, (x, i) -> x.strike(1, 3, i));
        Traces.none("7 rule 6 of six", Scenes.FULL, x -> x.strike(0, 0, 6));
        Traces.none("7 rule -1 of six", Scenes.FULL, x -> x.strike(1, 6, -1));
    }

    private static void strikeRefusesAnEmptyRow() {
        Traces.noneOutside("7 empty row", Scenes.BUSY, 0, -1, (x, i) -> x.strike(1, 1, i));
        Traces.none("7 rule 0 of none", Scenes.BUSY, x -> x.strike(1, 1, 0));
        Traces.none("7 rule 0, fresh", Scenes.FRESH, x -> x.strike(0, 0, 0));
        CountedDesk x = Scenes.BUSY.get();
        Check.due("7 the only one", x.strike(0, 0, 0), 0);
        Check.due("7 it goes once", x.strike(0, 0, 0), NONE);
    }

    private static void strikeTakesFirstMiddleAndLast() {
        for (int book = 0; book < 2; book++) {
            for (int gone = 0; gone < 6; gone++) {
                CountedDesk x = oneSwitch();
                for (int i = 0; i < 6; i++) {
                    x.rule(book, 0, i, 15, 5, 3);
                }
                String what = "7 rule " + gone + " of book " + book;
                Check.due(what, x.strike(book, 0, gone), 5);
                Check.due(what + " in all", x.look(3), 5);
                for (int i = 0; i < 6; i++) {
                    Check.due(what + ", mark " + i, end(x, book, 0, i), i == gone ? 10 : 3);
                }
                Check.due(what + ", none is twice", x.rule(book, 0, gone, 15, 5, 1), 6);
                Check.due(what + ", behind the others", end(x, book, 0, gone), 1);
                Check.due(what + ", the last of them", x.strike(book, 0, 5), 5);
                Check.due(what + ", was that one", end(x, book, 0, gone), 10);
            }
        }
    }

    // ---- promise 8: "how many RULES; NONE if there is no such SWITCH"

    private static void copyRefusesNoSuchSwitch() {
        Traces.noneOutside("8 back", Scenes.BUSY, 0, 3, (x, s) -> x.copy(s, true));
        Traces.noneOutside("8 forth", Scenes.BUSY, 0, 3, (x, s) -> x.copy(s, false));
        Traces.none("8 back, 7 of 7", Scenes.FULL, x -> x.copy(7, true));
        Traces.none("8 forth, 7 of 7", Scenes.FULL, x -> x.copy(7, false));
    }

    private static void copyOfEmptyAndFullRows() {
        for (int olds = 0; olds <= 6; olds++) {
            for (int news = 0; news <= 6; news++) {
                CountedDesk x = rows(olds, news);
                String what = "8 " + olds + " old, " + news + " new";
                Check.due(what + " back", x.copy(6, true), olds);
                Check.due(what + " back, in all", x.look(3), 2 * olds);
                rowsAre(what + " back", x, olds, 3);
                CountedDesk y = rows(olds, news);
                Check.due(what + " forth", y.copy(6, false), news);
                Check.due(what + " forth, in all", y.look(3), 2 * news);
                rowsAre(what + " forth", y, news, 2);
            }
        }
    }

    /** Old rules of switch 6 send marks 0, 1, .. to port 3, new ones to port 2. */
    private static CountedDesk rows(int olds, int news) {
        CountedDesk x = new CountedDesk();
        x.net(7);
        for (int p = 0; p < 4; p++) {
            x.host(6, p);
        }
        for (int i = 0; i < olds; i++) {
            x.rule(0, 6, i, 15, 5, 3);
        }
        for (int i = 0; i < news; i++) {
            x.rule(1, 6, i, 15, 5, 2);
        }
        return x;
    }

    private static void rowsAre(String what, CountedDesk x, int count, int port) {
        Check.due(what + " alike", x.look(5), 0);
        for (int mark = 0; mark < 7; mark++) {
            Check.due(what + " old, mark " + mark, end(x, 0, 0, mark), mark < count ? port : 10);
            Check.due(what + " new, mark " + mark, end(x, 127, 0, mark), mark < count ? port : 10);
        }
        Check.due(what + " old row has one more", x.rule(0, 6, 15, 15, 0, 0), count < 6 ? count + 1 : NONE);
        Check.due(what + " it is a row of its own", x.look(3), count < 6 ? 2 * count + 1 : 12);
        Check.due(what + " new row too", x.rule(1, 6, 14, 15, 0, 0), count < 6 ? count + 1 : NONE);
    }

    private static void copyOfOneSwitchAlone() {
        for (int s = 0; s < 7; s++) {
            CountedDesk x = Scenes.loose(7);
            Check.due("8 back of " + s, x.copy(s, true), 0);
            Check.due("8 back of " + s + " alone", x.look(5), 127 - (1 << s));
            CountedDesk y = Scenes.loose(7);
            Check.due("8 forth of " + s, y.copy(s, false), 1);
            Check.due("8 forth of " + s + " alone", y.look(5), 127 - (1 << s));
        }
    }

    // ---- terms 1: "UNLIKE are the SWITCHES whose rows of RULES in the BOOKS are not the same, RULE by RULE."

    private static void unlikeRuleByRule() {
        int[] same = {5, 6, 7, 3};
        int[] least = {0, 0, 0, 0};
        int[] greatest = {15, 15, 9, 4};
        for (int at = 0; at < 6; at++) {
            for (int place = 0; place < 4; place++) {
                for (int number = least[place]; number <= greatest[place]; number++) {
                    int[] other = same.clone();
                    other[place] = number;
                    CountedDesk x = new CountedDesk();
                    for (int i = 0; i < 6; i++) {
                        int[] r = i == at ? other : same;
                        x.rule(0, 0, same[0], same[1], same[2], same[3]);
                        x.rule(1, 0, r[0], r[1], r[2], r[3]);
                    }
                    boolean alike = number == same[place];
                    Check.due("t1 rule " + at + ", number " + number + " at " + place, x.look(5), alike ? 0 : 1);
                }
            }
        }
        CountedDesk x = new CountedDesk();
        x.rule(0, 0, 1, 1, 1, 1);
        x.rule(0, 0, 2, 2, 2, 2);
        x.rule(1, 0, 2, 2, 2, 2);
        Check.due("t1 one is missing", x.look(5), 1);
        x.rule(1, 0, 1, 1, 1, 1);
        Check.due("t1 another order", x.look(5), 1);
        x.strike(1, 0, 0);
        x.rule(1, 0, 2, 2, 2, 2);
        Check.due("t1 the same order", x.look(5), 0);
        x.rule(1, 0, 2, 2, 2, 2);
        Check.due("t1 one too many", x.look(5), 1);
    }

    private static void unlikeOfNoneAndOfAll() {
        CountedDesk x = new CountedDesk();
        for (int n = 1; n <= 7; n++) {
            x.net(n);
            Check.due("t1 empty rows are the same", x.look(5), 0);
            Check.due("t1 all unlike", Scenes.loose(n).look(5), (1 << n) - 1);
            x.rule(0, n - 1, 0, 0, 0, 4);
            Check.due("t1 the last alone", x.look(5), 1 << (n - 1));
        }
    }

    // ---- promise 12: "The CLASS of a MARK; NONE if it is none."

    private static void classRefusesNoMark() {
        Supplier<CountedDesk> sixteen = () -> bitByBit(4);
        Traces.noneOutside("12 mark", Scenes.BUSY, 0, 15, CountedDesk::ofClass);
        Traces.noneOutside("12 mark of sixteen classes", sixteen, 0, 15, CountedDesk::ofClass);
        Traces.noneOutside("12 mark, fresh", Scenes.FRESH, 0, 15, CountedDesk::ofClass);
    }

    /** The first bits of marks are told apart, each by a rule of another row. */
    private static CountedDesk bitByBit(int bits) {
        CountedDesk x = new CountedDesk();
        x.net(7);
        for (int bit = 0; bit < bits; bit++) {
            x.rule(bit % 2, 2 * bit, 0, 1 << bit, 0, 4);
        }
        return x;
    }

    private static void classesFromOneToSixteen() {
        for (int bits = 0; bits <= 4; bits++) {
            CountedDesk x = bitByBit(bits);
            Check.due("12 classes by " + bits + " bits", x.look(6), 1 << bits);
            for (int mark = 0; mark < 16; mark++) {
                Check.due("12 class of " + mark + " by " + bits + " bits", x.ofClass(mark), mark % (1 << bits));
            }
        }
    }

    // terms 2: "numbered 0, 1, .. by their least MARKS"
    private static void classesAreNumberedByTheirLeastMarks() {
        for (int alone = 0; alone < 16; alone++) {
            for (int row = 0; row < 14; row++) {
                CountedDesk x = new CountedDesk();
                x.net(7);
                x.rule(row % 2, row / 2, alone, 15, 0, 4);
                Check.due("12 two classes", x.look(6), 2);
                for (int mark = 0; mark < 16; mark++) {
                    int due = alone == 0 ? mark == 0 ? 0 : 1 : mark == alone ? 1 : 0;
                    Check.due("12 of " + mark + ", " + alone + " alone by row " + row, x.ofClass(mark), due);
                }
            }
        }
        CountedDesk x = new CountedDesk();
        x.rule(0, 0, 8, 8, 0, 4);
        x.rule(0, 0, 15, 15, 0, 4);
        x.rule(1, 0, 4, 12, 0, 4);
        Check.dueRow("12 class of", x::ofClass, 0, 0, 0, 0, 1, 1, 1, 1, 2, 2, 2, 2, 2, 2, 2, 3);
        x.rule(1, 0, 0, 0, 9, 1);
        Check.due("12 a rule that has all tells none apart", x.look(6), 4);
        x.strike(0, 0, 0);
        Check.dueRow("12 class now of", x::ofClass, 0, 0, 0, 0, 1, 1, 1, 1, 0, 0, 0, 0, 0, 0, 0, 2);
    }
}
