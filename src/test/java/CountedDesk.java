/**
 * A desk that counts its calls: a desk is used for at most 512, so a test that makes more would look
 * at answers that are free.
 */
final class CountedDesk {
    static final int CALLS = 512;

    private final RuleChangeDesk desk = new RuleChangeDesk();
    private int calls;

    int callsLeft() {
        return CALLS - calls;
    }

    private RuleChangeDesk counted() {
        if (calls >= CALLS) {
            throw new IllegalStateException("this test makes more than " + CALLS + " calls on one desk");
        }
        calls++;
        return desk;
    }

    boolean net(int n) {
        return counted().net(n);
    }

    boolean link(int s, int p, int t, int q) {
        return counted().link(s, p, t, q);
    }

    int host(int s, int p) {
        return counted().host(s, p);
    }

    boolean unplug(int s, int p) {
        return counted().unplug(s, p);
    }

    int rule(int book, int s, int value, int bits, int rank, int act) {
        return counted().rule(book, s, value, bits, rank, act);
    }

    int strike(int book, int s, int i) {
        return counted().strike(book, s, i);
    }

    int copy(int s, boolean back) {
        return counted().copy(s, back);
    }

    int want(int kind, int value, int bits, int a, int b, int s) {
        return counted().want(kind, value, bits, a, b, s);
    }

    int unwant(int i) {
        return counted().unwant(i);
    }

    int look(int what) {
        return counted().look(what);
    }

    int ofClass(int mark) {
        return counted().ofClass(mark);
    }

    int way(int mixture, int host, int mark) {
        return counted().way(mixture, host, mark);
    }

    int on(int i) {
        return counted().on(i);
    }

    int holds(int want, int mixture) {
        return counted().holds(want, mixture);
    }

    int kept(int want) {
        return counted().kept(want);
    }

    int why(int mixture, int what) {
        return counted().why(mixture, what);
    }

    int least() {
        return counted().least();
    }

    int orders() {
        return counted().orders();
    }

    boolean order(int k) {
        return counted().order(k);
    }

    int round(int set) {
        return counted().round(set);
    }

    void empty() {
        counted().empty();
    }

    int plan(int i) {
        return counted().plan(i);
    }

    int mid(int i) {
        return counted().mid(i);
    }

    boolean begin() {
        return counted().begin();
    }

    int send(int host, int mark) {
        return counted().send(host, mark);
    }

    int hop(int k) {
        return counted().hop(k);
    }

    int change(int s) {
        return counted().change(s);
    }

    int next() {
        return counted().next();
    }

    int run(int what) {
        return counted().run(what);
    }

    int packet(int k, int what) {
        return counted().packet(k, what);
    }
}
