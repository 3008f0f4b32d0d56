import java.util.ArrayDeque;
import java.util.ArrayList;
import java.util.Deque;
import java.util.List;

/**
 * The document's words once more, as slowly and plainly as can be, to hold CalledSquare against:
 * lists, copies, every row written out and looked at, rounds found by giving again and again.
 */
final class NaiveSquare {
    static final int NONE = -1, BAD = -2, NO = -3, FULL = -4;

    static final class Dancer {
        int spot, facing, homeSpot, homeFacing;

        Dancer copy() {
            Dancer d = new Dancer();
            d.spot = spot;
            d.facing = facing;
            d.homeSpot = homeSpot;
            d.homeFacing = homeFacing;
            return d;
        }

        boolean isHome() {
            return spot == homeSpot && facing == homeFacing;
        }
    }

    static final class Rule {
        int[] goes = {0, 1, 2, 3, 4, 5, 6, 7, 8, 9, 10, 11};
        int[] turn = new int[12];
        int[] want = new int[12];

        Rule copy() {
            Rule r = new Rule();
            r.goes = goes.clone();
            r.turn = turn.clone();
            r.want = want.clone();
            return r;
        }
    }

    static final class State {
        List<Dancer> dancers = new ArrayList<>();
        List<Rule> rules = new ArrayList<>();
        List<Integer> plan = new ArrayList<>();
        int given;

        State copy() {
            State s = new State();
            for (Dancer d : dancers) {
                s.dancers.add(d.copy());
            }
            for (Rule r : rules) {
                s.rules.add(r.copy());
            }
            s.plan.addAll(plan);
            s.given = given;
            return s;
        }

        Dancer on(int spot) {
            for (Dancer d : dancers) {
                if (d.spot == spot) {
                    return d;
                }
            }
            return null;
        }

        boolean fits(int c) {
            for (int s = 0; s < 12; s++) {
                int want = rules.get(c).want[s];
                if (want == 1 && on(s) == null || want == 2 && on(s) != null) {
                    return false;
                }
            }
            return true;
        }

        int give(int c) {
            int changed = 0;
            Rule r = rules.get(c);
            for (Dancer d : dancers) {
                int spot = r.goes[d.spot];
                int facing = (d.facing + r.turn[d.spot]) % 4;
                if (spot != d.spot || facing != d.facing) {
                    changed++;
                }
                d.spot = spot;
                d.facing = facing;
            }
            given++;
            return changed;
        }

        boolean paired(int d) {
            int p = d % 2 == 0 ? d + 1 : d - 1;
            if (p >= dancers.size()) {
                return false;
            }
            Dancer a = dancers.get(d);
            Dancer b = dancers.get(p);
            return a.spot / 4 == b.spot / 4 && Math.abs(a.spot % 4 - b.spot % 4) == 1 && a.facing == b.facing;
        }

        boolean goal(int g) {
            boolean home = true;
            boolean pairs = true;
            for (int d = 0; d < dancers.size(); d++) {
                home &= dancers.get(d).isHome();
                if (d % 2 == 1) {
                    pairs &= paired(d);
                }
            }
            return g == 0 ? home : g == 1 ? pairs : home && pairs;
        }

        /** The state behind a row, or null where the row does not go. */
        State behind(List<Integer> row) {
            State s = copy();
            for (int c : row) {
                if (!s.fits(c)) {
                    return null;
                }
                s.give(c);
            }
            return s;
        }
    }

    State now = new State();
    final Deque<State> states = new ArrayDeque<>();
    final int[] refused = new int[3];
    final StringBuilder text = new StringBuilder();

    // ---- dancers and calls

    int dancer(int s, int f) {
        return keep(doDancer(now.copy(), s, f));
    }

    int call() {
        return keep(doCall(now.copy(), new Rule()));
    }

    int exchanges(int c, int a, int b) {
        State next = now.copy();
        if (noCall(next, c) || noSpot(a) || noSpot(b) || a == b) {
            return refuse(BAD);
        }
        int[] goes = next.rules.get(c).goes;
        int t = goes[a];
        goes[a] = goes[b];
        goes[b] = t;
        return keep(new Done(next, goes[a]));
    }

    int turns(int c, int s, int t) {
        return keep(doTurns(now.copy(), c, s, t));
    }

    int wants(int c, int s, int v) {
        return keep(doWants(now.copy(), c, s, v));
    }

    int joins(int a, int b) {
        State next = now.copy();
        if (noCall(next, a) || noCall(next, b)) {
            return refuse(BAD);
        }
        Rule first = next.rules.get(a);
        Rule second = next.rules.get(b);
        Rule joined = new Rule();
        for (int s = 0; s < 12; s++) {
            int mid = first.goes[s];
            if (first.want[s] * second.want[mid] == 2) {
                return refuse(NO);
            }
            joined.goes[s] = second.goes[mid];
            joined.turn[s] = (first.turn[s] + second.turn[mid]) % 4;
            joined.want[s] = Math.max(first.want[s], second.want[mid]);
        }
        return keep(doCall(next, joined));
    }

    int backwards(int c) {
        State next = now.copy();
        if (noCall(next, c)) {
            return refuse(BAD);
        }
        Rule forth = next.rules.get(c);
        Rule back = new Rule();
        for (int t = 0; t < 12; t++) {
            for (int s = 0; s < 12; s++) {
                if (forth.goes[s] == t) {
                    back.goes[t] = s;
                    back.turn[t] = (4 - forth.turn[s]) % 4;
                    back.want[t] = forth.want[s];
                }
            }
        }
        return keep(doCall(next, back));
    }

    int gives(int c) {
        return keep(doGives(now.copy(), c));
    }

    int home() {
        State next = now.copy();
        int away = 0;
        for (Dancer d : next.dancers) {
            away += d.isHome() ? 0 : 1;
            d.spot = d.homeSpot;
            d.facing = d.homeFacing;
        }
        return keep(new Done(next, away));
    }

    // ---- what is asked

    int of(int d, int what) {
        if (d < 0 || d >= now.dancers.size() || what < 0 || what > 6) {
            return refuse(BAD);
        }
        Dancer x = now.dancers.get(d);
        int partner = d % 2 == 0 ? d + 1 : d - 1;
        int[] answers = {
            x.spot, x.facing, x.homeSpot, x.homeFacing, x.isHome() ? 1 : 0,
            partner < now.dancers.size() ? partner : NONE, now.paired(d) ? 1 : 0,
        };
        return answers[what];
    }

    int on(int s) {
        return noSpot(s) ? refuse(BAD) : now.dancers.indexOf(now.on(s));
    }

    int at(int c, int s, int what) {
        if (noCall(now, c) || noSpot(s) || what < 0 || what > 2) {
            return refuse(BAD);
        }
        Rule r = now.rules.get(c);
        return new int[] {r.goes[s], r.turn[s], r.want[s]}[what];
    }

    int tells(int c, int what) {
        if (noCall(now, c) || what < 0 || what > 3) {
            return refuse(BAD);
        }
        Rule r = now.rules.get(c);
        int moving = 0;
        int wanting = 0;
        for (int s = 0; s < 12; s++) {
            moving += r.goes[s] == s ? 0 : 1;
            wanting += r.want[s] == 0 ? 0 : 1;
        }
        return new int[] {now.fits(c) ? 1 : 0, moving, round(r), wanting}[what];
    }

    private static int round(Rule r) {
        int[] spot = new Rule().goes;
        int[] facing = new int[12];
        for (int n = 1; ; n++) {
            boolean asAhead = true;
            for (int s = 0; s < 12; s++) {
                facing[s] = (facing[s] + r.turn[spot[s]]) % 4;
                spot[s] = r.goes[spot[s]];
                asAhead &= spot[s] == s && facing[s] == 0;
            }
            if (asAhead) {
                return n;
            }
        }
    }

    private List<List<Integer>> rowsOf(int n) {
        List<List<Integer>> rows = new ArrayList<>();
        rows.add(List.of());
        for (int i = 0; i < n; i++) {
            List<List<Integer>> longer = new ArrayList<>();
            for (List<Integer> row : rows) {
                for (int c = 0; c < now.rules.size(); c++) {
                    List<Integer> more = new ArrayList<>(row);
                    more.add(c);
                    longer.add(more);
                }
            }
            rows = longer;
        }
        return rows;
    }

    private static boolean varied(List<Integer> row, int v) {
        for (int i = 0; i < row.size(); i++) {
            int c = row.get(i);
            if (row.stream().filter(x -> x == c).count() > v) {
                return false;
            }
            if (i > 0 && row.get(i - 1) == c) {
                return false;
            }
        }
        return true;
    }

    private List<Integer> look(int g, int n, int v) {
        for (int length = 0; length <= n; length++) {
            for (List<Integer> row : rowsOf(length)) {
                if (!varied(row, v)) {
                    continue;
                }
                State behind = now.behind(row);
                if (behind != null && behind.goal(g)) {
                    return row;
                }
            }
        }
        return null;
    }

    int finds(int g, int n, int v) {
        if (g < 0 || g > 2 || n < 0 || n > 5 || v < 1 || v > 5) {
            return refuse(BAD);
        }
        List<Integer> row = look(g, n, v);
        return row == null ? NONE : row.size();
    }

    int found(int g, int n, int v, int i) {
        if (g < 0 || g > 2 || n < 0 || n > 5 || v < 1 || v > 5 || i < 0) {
            return refuse(BAD);
        }
        List<Integer> row = look(g, n, v);
        return row == null || i >= row.size() ? NONE : row.get(i);
    }

    int rows(int g, int n) {
        if (g < 0 || g > 2 || n < 0 || n > 4) {
            return refuse(BAD);
        }
        int rows = 0;
        for (List<Integer> row : rowsOf(n)) {
            State behind = now.behind(row);
            rows += behind != null && behind.goal(g) ? 1 : 0;
        }
        return rows;
    }

    int plans(int c) {
        return keep(doPlans(now.copy(), c));
    }

    int scraps() {
        State next = now.copy();
        int had = next.plan.size();
        next.plan.clear();
        return keep(new Done(next, had));
    }

    int judges() {
        for (int n = 1; n <= now.plan.size(); n++) {
            if (now.behind(now.plan.subList(0, n)) == null) {
                return n - 1;
            }
        }
        return NONE;
    }

    int planned(int d, int what) {
        if (d < 0 || d >= now.dancers.size() || what < 0 || what > 1) {
            return refuse(BAD);
        }
        int stop = judges();
        State behind = now.behind(now.plan.subList(0, stop == NONE ? now.plan.size() : stop));
        return what == 0 ? behind.dancers.get(d).spot : behind.dancers.get(d).facing;
    }

    int count(int what) {
        if (what < 0 || what > 6) {
            return refuse(BAD);
        }
        int home = 0;
        int pairs = 0;
        for (int d = 0; d < now.dancers.size(); d++) {
            home += now.dancers.get(d).isHome() ? 1 : 0;
            pairs += d % 2 == 1 && now.paired(d) ? 1 : 0;
        }
        int bits = 0;
        for (int c = 0; c < now.rules.size(); c++) {
            bits += now.fits(c) ? 1 << c : 0;
        }
        return new int[] {
            now.dancers.size(), now.rules.size(), home, pairs, bits, now.plan.size(), now.given,
        }[what];
    }

    // ---- texts

    int type(int c) {
        if (c < 0 || c > 127) {
            return refuse(BAD);
        }
        if (text.length() == 120) {
            return refuse(FULL);
        }
        text.append((char) c);
        return text.length();
    }

    int clear() {
        int had = text.length();
        text.setLength(0);
        return had;
    }

    int does() {
        NaiveText read = new NaiveText(text.toString());
        if (read.fault != NONE) {
            return -10 - read.fault;
        }
        State next = now.copy();
        for (int i = 0; i < read.orders.size(); i++) {
            Done done = doOrder(next, read.orders.get(i));
            if (done.next == null) {
                return -1000 - i;
            }
            next = done.next;
        }
        return keep(new Done(next, read.orders.size()));
    }

    int back() {
        if (states.isEmpty()) {
            return refuse(NO);
        }
        now = states.removeLast();
        return states.size();
    }

    int told(int what) {
        if (what < 0 || what > 4) {
            return refuse(BAD);
        }
        return new int[] {refused[0], refused[1], refused[2], text.length(), states.size()}[what];
    }

    long digest() {
        List<Integer> values = new ArrayList<>();
        for (int i = 0; i < 5; i++) {
            values.add(told(i));
        }
        for (int i = 0; i < 7; i++) {
            values.add(count(i));
        }
        for (int d = 0; d < now.dancers.size(); d++) {
            for (int i = 0; i < 7; i++) {
                values.add(of(d, i));
            }
        }
        for (int c = 0; c < now.rules.size(); c++) {
            for (int s = 0; s < 12; s++) {
                for (int i = 0; i < 3; i++) {
                    values.add(at(c, s, i));
                }
            }
            for (int i = 0; i < 4; i++) {
                values.add(tells(c, i));
            }
        }
        values.addAll(now.plan);
        long h = 2633;
        for (int v : values) {
            h = 31 * h + v;
        }
        return h;
    }

    // ---- what is done to a copy: the state behind it and the answer, or a refusal without state

    private record Done(State next, int answer) {
    }

    private static Done refusal(int code) {
        return new Done(null, code);
    }

    private int keep(Done done) {
        if (done.next == null) {
            return refuse(done.answer);
        }
        states.addLast(now);
        if (states.size() > 5) {
            states.removeFirst();
        }
        now = done.next;
        return done.answer;
    }

    private int refuse(int code) {
        refused[-2 - code]++;
        return code;
    }

    private static boolean noCall(State s, int c) {
        return c < 0 || c >= s.rules.size();
    }

    private static boolean noSpot(int s) {
        return s < 0 || s > 11;
    }

    private static Done doDancer(State next, int s, int f) {
        if (noSpot(s) || f < 0 || f > 3 || next.on(s) != null) {
            return refusal(BAD);
        }
        for (Dancer d : next.dancers) {
            if (d.homeSpot == s) {
                return refusal(BAD);
            }
        }
        if (next.dancers.size() == 8) {
            return refusal(FULL);
        }
        Dancer d = new Dancer();
        d.spot = s;
        d.homeSpot = s;
        d.facing = f;
        d.homeFacing = f;
        next.dancers.add(d);
        return new Done(next, next.dancers.size() - 1);
    }

    private static Done doCall(State next, Rule r) {
        if (next.rules.size() == 8) {
            return refusal(FULL);
        }
        next.rules.add(r);
        return new Done(next, next.rules.size() - 1);
    }

    private static Done doTurns(State next, int c, int s, int t) {
        if (noCall(next, c) || noSpot(s) || t < 0 || t > 3) {
            return refusal(BAD);
        }
        int was = next.rules.get(c).turn[s];
        next.rules.get(c).turn[s] = t;
        return new Done(next, was);
    }

    private static Done doWants(State next, int c, int s, int v) {
        if (noCall(next, c) || noSpot(s) || v < 0 || v > 2) {
            return refusal(BAD);
        }
        int was = next.rules.get(c).want[s];
        next.rules.get(c).want[s] = v;
        return new Done(next, was);
    }

    private static Done doGives(State next, int c) {
        if (noCall(next, c)) {
            return refusal(BAD);
        }
        return next.fits(c) ? new Done(next, next.give(c)) : refusal(NO);
    }

    private static Done doPlans(State next, int c) {
        if (noCall(next, c)) {
            return refusal(BAD);
        }
        if (next.plan.size() == 12) {
            return refusal(FULL);
        }
        next.plan.add(c);
        return new Done(next, next.plan.size());
    }

    private static Done doOrder(State next, NaiveText.Order order) {
        List<Integer> n = order.numbers();
        switch (order.kind()) {
            case 'k': {
                Rule r = new Rule();
                for (List<Integer> cycle : order.cycles()) {
                    for (int i = 0; i < cycle.size(); i++) {
                        r.goes[cycle.get(i)] = cycle.get((i + 1) % cycle.size());
                    }
                }
                return doCall(next, r);
            }
            case 'u': return doTurns(next, n.get(0), n.get(1), n.get(2));
            case 'w': return doWants(next, n.get(0), n.get(1), n.get(2));
            case 'd': return doDancer(next, n.get(0), n.get(1));
            case 'g': return doGives(next, n.get(0));
            default: return doPlans(next, n.get(0));
        }
    }
}
