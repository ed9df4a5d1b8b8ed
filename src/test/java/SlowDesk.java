import java.util.ArrayList;
import java.util.Arrays;
import java.util.List;

/**
 * The document once more, written to be read and not to be quick: every answer is worked out anew
 * from lists, plans by trying all rows of rounds, orders by writing all of them down.
 */
final class SlowDesk {
    static final int NONE = -1;

    record Rule(int value, int bits, int rank, int act) {
        boolean has(int mark) {
            return (mark & bits) == (value & bits);
        }
    }

    record Want(int kind, int value, int bits, int a, int b, int s) {
        boolean has(int mark) {
            return (mark & bits) == (value & bits);
        }
    }

    record Way(List<Integer> stops, int end) {
    }

    static final class Packet {
        int host;
        int mark;
        List<Integer> stops = new ArrayList<>();
        int end = NONE;
    }

    int n;
    String[][] ports;
    List<int[]> hosts;
    List<List<List<Rule>>> books;
    List<Want> wants;
    List<Integer> plan = new ArrayList<>();
    Way latest;
    boolean live;
    int atHand;
    int changed;
    int broken;
    List<Packet> packets = new ArrayList<>();

    SlowDesk() {
        net(1);
    }

    private void afresh() {
        plan = new ArrayList<>();
        live = false;
    }

    boolean net(int count) {
        if (count < 1 || count > 7) {
            return false;
        }
        n = count;
        ports = new String[n][4];
        hosts = new ArrayList<>();
        wants = new ArrayList<>();
        books = new ArrayList<>();
        for (int book = 0; book < 2; book++) {
            books.add(new ArrayList<>());
            for (int s = 0; s < n; s++) {
                books.get(book).add(new ArrayList<>());
            }
        }
        afresh();
        return true;
    }

    private boolean port(int s, int p) {
        return s >= 0 && s < n && p >= 0 && p <= 3;
    }

    boolean link(int s, int p, int t, int q) {
        if (!port(s, p) || !port(t, q) || s == t || ports[s][p] != null || ports[t][q] != null) {
            return false;
        }
        ports[s][p] = "link " + t + " " + q;
        ports[t][q] = "link " + s + " " + p;
        afresh();
        return true;
    }

    int host(int s, int p) {
        if (!port(s, p) || ports[s][p] != null || hosts.size() == 6) {
            return NONE;
        }
        ports[s][p] = "host " + hosts.size();
        hosts.add(new int[] {s, p});
        afresh();
        return hosts.size() - 1;
    }

    boolean unplug(int s, int p) {
        if (!port(s, p) || ports[s][p] == null) {
            return false;
        }
        String[] words = ports[s][p].split(" ");
        if (words[0].equals("link")) {
            ports[Integer.parseInt(words[1])][Integer.parseInt(words[2])] = null;
        } else {
            int h = Integer.parseInt(words[1]);
            if (h != hosts.size() - 1) {
                return false;
            }
            for (Want w : wants) {
                if (w.a() == h || (List.of(0, 2, 3).contains(w.kind()) && w.b() == h)) {
                    return false;
                }
            }
            hosts.remove(h);
        }
        ports[s][p] = null;
        afresh();
        return true;
    }

    int rule(int book, int s, int value, int bits, int rank, int act) {
        if (book < 0 || book > 1 || s < 0 || s >= n || value < 0 || value > 15 || bits < 0 || bits > 15
                || rank < 0 || rank > 9 || act < 0 || act > 4 || books.get(book).get(s).size() == 6) {
            return NONE;
        }
        books.get(book).get(s).add(new Rule(value, bits, rank, act));
        afresh();
        return books.get(book).get(s).size();
    }

    int strike(int book, int s, int i) {
        if (book < 0 || book > 1 || s < 0 || s >= n || i < 0 || i >= books.get(book).get(s).size()) {
            return NONE;
        }
        books.get(book).get(s).remove(i);
        afresh();
        return books.get(book).get(s).size();
    }

    int copy(int s, boolean back) {
        if (s < 0 || s >= n) {
            return NONE;
        }
        int from = back ? 0 : 1;
        books.get(1 - from).set(s, new ArrayList<>(books.get(from).get(s)));
        afresh();
        return books.get(from).get(s).size();
    }

    int want(int kind, int value, int bits, int a, int b, int s) {
        boolean target = kind == 0 || kind == 2 || kind == 3;
        if (kind < 0 || kind > 4 || value < 0 || value > 15 || bits < 0 || bits > 15
                || a < 0 || a >= hosts.size() || (target && (b < 0 || b >= hosts.size()))
                || (kind == 3 && (s < 0 || s >= n)) || wants.size() == 10) {
            return NONE;
        }
        wants.add(new Want(kind, value, bits, a, b, s));
        afresh();
        return wants.size() - 1;
    }

    int unwant(int i) {
        if (i < 0 || i >= wants.size()) {
            return NONE;
        }
        wants.remove(i);
        afresh();
        return wants.size();
    }

    private int unlike() {
        int set = 0;
        for (int s = 0; s < n; s++) {
            if (!books.get(0).get(s).equals(books.get(1).get(s))) {
                set += 1 << s;
            }
        }
        return set;
    }

    int look(int what) {
        switch (what) {
            case 0:
                return n;
            case 1:
                return hosts.size();
            case 2:
                return (int) Arrays.stream(ports).flatMap(Arrays::stream)
                        .filter(x -> x != null && x.startsWith("link")).count() / 2;
            case 3:
                return books.stream().flatMap(List::stream).mapToInt(List::size).sum();
            case 4:
                return wants.size();
            case 5:
                return unlike();
            case 6:
                return leasts().size();
            case 7:
                return (int) java.util.stream.IntStream.range(0, 1 << n)
                        .filter(m -> (m & unlike()) == m && good(m)).count();
            case 8:
                return plan.size();
            case 9:
                return plan.stream().mapToInt(x -> x).sum() == unlike() ? 1 : 0;
            default:
                return NONE;
        }
    }

    private String signature(int mark) {
        StringBuilder b = new StringBuilder();
        books.stream().flatMap(List::stream).flatMap(List::stream).forEach(r -> b.append(r.has(mark)).append(' '));
        return b.toString();
    }

    private List<String> leasts() {
        List<String> found = new ArrayList<>();
        for (int mark = 0; mark < 16; mark++) {
            if (!found.contains(signature(mark))) {
                found.add(signature(mark));
            }
        }
        return found;
    }

    int ofClass(int mark) {
        return mark < 0 || mark > 15 ? NONE : leasts().indexOf(signature(mark));
    }

    private int act(int mixture, int s, int mark) {
        Rule acts = null;
        for (Rule r : books.get((mixture >> s) % 2).get(s)) {
            if (r.has(mark) && (acts == null || r.rank() > acts.rank())) {
                acts = r;
            }
        }
        return acts == null ? 4 : acts.act();
    }

    /** The end that a packet comes to by one step, or NONE if it is at one switch more. */
    private int step(List<Integer> stops, int mixture, int mark) {
        int s = stops.get(stops.size() - 1);
        int act = act(mixture, s, mark);
        if (act == 4) {
            return 10;
        }
        if (ports[s][act] == null) {
            return 11;
        }
        String[] words = ports[s][act].split(" ");
        int there = Integer.parseInt(words[1]);
        if (words[0].equals("host")) {
            return there;
        }
        if (stops.contains(there)) {
            return 12;
        }
        stops.add(there);
        return NONE;
    }

    private Way trace(int mixture, int host, int mark) {
        List<Integer> stops = new ArrayList<>(List.of(hosts.get(host)[0]));
        int end = NONE;
        while (end == NONE) {
            end = step(stops, mixture, mark);
        }
        return new Way(stops, end);
    }

    private boolean mixture(int m) {
        return m >= 0 && m < 1 << n;
    }

    int way(int mixture, int host, int mark) {
        if (!mixture(mixture) || host < 0 || host >= hosts.size() || mark < 0 || mark > 15) {
            return NONE;
        }
        latest = trace(mixture, host, mark);
        return latest.stops().size();
    }

    int on(int i) {
        if (latest == null) {
            return NONE;
        }
        if (i == NONE) {
            return latest.end();
        }
        return i >= 0 && i < latest.stops().size() ? latest.stops().get(i) : NONE;
    }

    private boolean met(Want w, int mark, Way way) {
        return switch (w.kind()) {
            case 0 -> way.end() == w.b();
            case 1 -> way.end() != 12;
            case 2 -> way.end() != w.b();
            case 3 -> way.end() != w.b() || way.stops().contains(w.s());
            default -> way.equals(trace(0, w.a(), mark)) || way.equals(trace((1 << n) - 1, w.a(), mark));
        };
    }

    private int badMark(Want w, int mixture) {
        for (int mark = 0; mark < 16; mark++) {
            if (w.has(mark) && !met(w, mark, trace(mixture, w.a(), mark))) {
                return mark;
            }
        }
        return NONE;
    }

    private boolean isKept(Want w) {
        return badMark(w, 0) == NONE && badMark(w, (1 << n) - 1) == NONE;
    }

    private boolean good(int mixture) {
        return wants.stream().allMatch(w -> !isKept(w) || badMark(w, mixture) == NONE);
    }

    int holds(int want, int mixture) {
        if (want < 0 || want >= wants.size() || !mixture(mixture)) {
            return NONE;
        }
        return badMark(wants.get(want), mixture) == NONE ? 1 : 0;
    }

    int kept(int want) {
        return want < 0 || want >= wants.size() ? NONE : isKept(wants.get(want)) ? 1 : 0;
    }

    int why(int mixture, int what) {
        if (!mixture(mixture) || what < 0 || what > 1) {
            return NONE;
        }
        for (int i = 0; i < wants.size(); i++) {
            if (isKept(wants.get(i)) && badMark(wants.get(i), mixture) != NONE) {
                return what == 0 ? i : badMark(wants.get(i), mixture);
            }
        }
        return NONE;
    }

    private boolean[] goods() {
        boolean[] goods = new boolean[1 << n];
        for (int m = 0; m < goods.length; m++) {
            goods[m] = good(m);
        }
        return goods;
    }

    private int notTaken(boolean[] goods, int ahead, int set) {
        for (int m = 0; m < goods.length; m++) {
            if ((m & ~set) == ahead && !goods[m]) {
                return m;
            }
        }
        return NONE;
    }

    /** The first plan, by its rounds' numbers, of just so many rounds more, or null. */
    private List<Integer> first(boolean[] goods, int done, int all, int more) {
        if (more == 0) {
            return done == all ? new ArrayList<>() : null;
        }
        for (int set = 1; set <= all; set++) {
            if ((set & ~all) == 0 && (set & done) == 0 && notTaken(goods, done, set) == NONE) {
                List<Integer> rest = first(goods, done | set, all, more - 1);
                if (rest != null) {
                    rest.add(0, set);
                    return rest;
                }
            }
        }
        return null;
    }

    int least() {
        boolean[] goods = goods();
        for (int count = 0; count <= 7; count++) {
            List<Integer> found = first(goods, 0, unlike(), count);
            if (found != null) {
                plan = found;
                live = false;
                return count;
            }
        }
        return NONE;
    }

    private void all(boolean[] goods, List<Integer> row, int done, List<List<Integer>> found) {
        if (done == unlike()) {
            found.add(new ArrayList<>(row));
            return;
        }
        for (int s = 0; s < n; s++) {
            int set = 1 << s;
            if ((unlike() & ~done & set) != 0 && goods[done] && goods[done | set]) {
                row.add(set);
                all(goods, row, done | set, found);
                row.remove(row.size() - 1);
            }
        }
    }

    private List<List<Integer>> allOrders() {
        List<List<Integer>> found = new ArrayList<>();
        all(goods(), new ArrayList<>(), 0, found);
        return found;
    }

    int orders() {
        return allOrders().size();
    }

    boolean order(int k) {
        List<List<Integer>> found = allOrders();
        if (k < 0 || k >= found.size()) {
            return false;
        }
        plan = found.get(k);
        live = false;
        return true;
    }

    int round(int set) {
        int taken = plan.stream().mapToInt(x -> x).sum();
        if (set == 0 || (set & unlike()) != set || (set & taken) != 0) {
            return NONE;
        }
        plan.add(set);
        live = false;
        return plan.size();
    }

    void empty() {
        afresh();
    }

    int plan(int i) {
        return i < 0 || i >= plan.size() ? NONE : plan.get(i);
    }

    int mid(int i) {
        if (i < 0 || i >= plan.size()) {
            return NONE;
        }
        return notTaken(goods(), plan.subList(0, i).stream().mapToInt(x -> x).sum(), plan.get(i));
    }

    boolean begin() {
        if (plan.isEmpty()) {
            return false;
        }
        live = true;
        atHand = 0;
        changed = 0;
        broken = 0;
        packets = new ArrayList<>();
        return true;
    }

    int send(int host, int mark) {
        if (!live || host < 0 || host >= hosts.size() || mark < 0 || mark > 15 || packets.size() == 40) {
            return NONE;
        }
        Packet p = new Packet();
        p.host = host;
        p.mark = mark;
        p.stops.add(hosts.get(host)[0]);
        packets.add(p);
        return packets.size() - 1;
    }

    int hop(int k) {
        if (!live || k < 0 || k >= packets.size() || packets.get(k).end != NONE) {
            return NONE;
        }
        Packet p = packets.get(k);
        p.end = step(p.stops, changed, p.mark);
        if (p.end == NONE) {
            return p.stops.get(p.stops.size() - 1);
        }
        for (Want w : wants) {
            if (isKept(w) && w.a() == p.host && w.has(p.mark) && !met(w, p.mark, new Way(p.stops, p.end))) {
                broken++;
            }
        }
        return 100 + p.end;
    }

    private int left() {
        return atHand < plan.size() ? plan.get(atHand) & ~changed : 0;
    }

    int change(int s) {
        if (!live || s < 0 || s >= n || (left() & 1 << s) == 0) {
            return NONE;
        }
        changed += 1 << s;
        return Integer.bitCount(left());
    }

    int next() {
        if (!live || atHand == plan.size() || left() != 0 || run(3) != 0) {
            return NONE;
        }
        return ++atHand;
    }

    int run(int what) {
        if (!live) {
            return NONE;
        }
        return switch (what) {
            case 0 -> atHand;
            case 1 -> changed;
            case 2 -> packets.size();
            case 3 -> (int) packets.stream().filter(p -> p.end == NONE).count();
            case 4 -> broken;
            default -> NONE;
        };
    }

    int packet(int k, int what) {
        if (!live || k < 0 || k >= packets.size()) {
            return NONE;
        }
        Packet p = packets.get(k);
        switch (what) {
            case 0:
                return p.host;
            case 1:
                return p.mark;
            case 2:
                return p.end == NONE ? p.stops.get(p.stops.size() - 1) : NONE;
            case 3:
                return p.end;
            case 4:
                return p.stops.size();
            default:
                return what >= 100 && what < 100 + p.stops.size() ? p.stops.get(what - 100) : NONE;
        }
    }
}
