import java.util.ArrayList;
import java.util.Collections;
import java.util.List;
import java.util.Random;

/** Many runs of calls, made up with fixed seeds, on CalledSquare and on NaiveSquare side by side. */
public final class AgainstNaiveTest {
    private static final int RUNS = 600;
    /** Two bytes more than a text may have. */
    private static final int MOST_TYPED = 122;
    /** What an object answers behind its 512th call is free: the last step begins early enough. */
    private static final int CALLS_OF_A_RUN = 512 - MOST_TYPED - 3;

    private final Random random;
    private final CalledSquare x = new CalledSquare();
    private final NaiveSquare y = new NaiveSquare();
    private final List<String> calls = new ArrayList<>();
    private int asked = 0;
    private boolean alike = true;

    private AgainstNaiveTest(long seed) {
        random = new Random(seed);
    }

    public static void main(String[] args) {
        int wrong = 0;
        for (int seed = 0; seed < RUNS && wrong < 5; seed++) {
            wrong += new AgainstNaiveTest(seed).run(seed) ? 0 : 1;
        }
        System.out.println(RUNS + " runs, " + wrong + " wrong");
        if (wrong != 0) {
            System.exit(1);
        }
    }

    private boolean run(int seed) {
        if (seed % 2 == 1) {
            crowd();
        }
        while (asked < CALLS_OF_A_RUN && alike) {
            step();
            if (alike) {
                due("digest()", x.digest(), y.digest());
            }
        }
        if (!alike) {
            System.out.println("seed " + seed + ": " + String.join("; ", calls));
        }
        return alike;
    }

    /** Nearly as much of everything as there may be, so that a run soon meets the bounds. */
    private void crowd() {
        for (int s = 0; s < 7; s++) {
            due("dancer(" + s + ", " + s % 4 + ")", x.dancer(s, s % 4), y.dancer(s, s % 4));
            due("call()", x.call(), y.call());
        }
        for (int c = 0; c < 7; c++) {
            due("exchanges(" + c + ", " + c + ", 11)", x.exchanges(c, c, 11), y.exchanges(c, c, 11));
            due("plans(" + c + ")", x.plans(c), y.plans(c));
        }
    }

    private void due(String call, long got, long want) {
        asked++;
        if (!call.equals("digest()")) {
            calls.add(call);
        }
        if (got != want) {
            alike = false;
            System.out.println(call + " answered " + got + ", due is " + want);
        }
    }

    /** Now and then a number that is just outside, or far off. */
    private int number(int bound) {
        int r = random.nextInt(60);
        if (r == 0) {
            return bound;
        }
        if (r == 1) {
            return -1;
        }
        if (r == 2) {
            return random.nextInt();
        }
        return bound <= 0 ? 0 : random.nextInt(bound);
    }

    private int aCall() {
        return number(y.now.rules.size());
    }

    private int aDancer() {
        return number(y.now.dancers.size());
    }

    private void step() {
        int r = random.nextInt(100);
        if (r < 45) {
            change(random.nextInt(12));
        } else if (r < 80) {
            ask(random.nextInt(11));
        } else if (r < 92) {
            text();
        } else {
            due("back()", x.back(), y.back());
        }
    }

    private void change(int kind) {
        int c = aCall();
        int d = aCall();
        int s = number(12);
        int t = number(12);
        int f = number(4);
        int v = number(3);
        switch (kind) {
            case 0: due("dancer(" + s + ", " + f + ")", x.dancer(s, f), y.dancer(s, f)); break;
            case 1: due("call()", x.call(), y.call()); break;
            case 2:
            case 3: due("exchanges(" + c + ", " + s + ", " + t + ")", x.exchanges(c, s, t), y.exchanges(c, s, t)); break;
            case 4: due("turns(" + c + ", " + s + ", " + f + ")", x.turns(c, s, f), y.turns(c, s, f)); break;
            case 5: due("wants(" + c + ", " + s + ", " + v + ")", x.wants(c, s, v), y.wants(c, s, v)); break;
            case 6: due("joins(" + c + ", " + d + ")", x.joins(c, d), y.joins(c, d)); break;
            case 7: due("backwards(" + c + ")", x.backwards(c), y.backwards(c)); break;
            case 8: due("gives(" + c + ")", x.gives(c), y.gives(c)); break;
            case 9: due("plans(" + c + ")", x.plans(c), y.plans(c)); break;
            case 10: if (random.nextInt(3) == 0) due("home()", x.home(), y.home()); break;
            default: if (random.nextInt(5) == 0) due("scraps()", x.scraps(), y.scraps()); break;
        }
    }

    private void ask(int kind) {
        int c = aCall();
        int d = aDancer();
        int s = number(12);
        int g = number(3);
        // the naive search writes every row out, so it is given few of the long ones
        int n = number(y.now.rules.size() > 4 && random.nextInt(20) != 0 ? 4 : 6);
        int v = number(6);
        int i = number(6);
        int w = number(7);
        switch (kind) {
            case 0: due("of(" + d + ", " + w + ")", x.of(d, w), y.of(d, w)); break;
            case 1: due("on(" + s + ")", x.on(s), y.on(s)); break;
            case 2: due("at(" + c + ", " + s + ", " + g + ")", x.at(c, s, g), y.at(c, s, g)); break;
            case 3: due("tells(" + c + ", " + i + ")", x.tells(c, i), y.tells(c, i)); break;
            case 4:
            case 5: due("finds(" + g + ", " + n + ", " + v + ")", x.finds(g, n, v), y.finds(g, n, v)); break;
            case 6:
                due("found(" + g + ", " + n + ", " + v + ", " + i + ")", x.found(g, n, v, i), y.found(g, n, v, i));
                break;
            case 7: n = Math.min(n, 4); due("rows(" + g + ", " + n + ")", x.rows(g, n), y.rows(g, n)); break;
            case 8: due("judges()", x.judges(), y.judges()); break;
            case 9: due("planned(" + d + ", " + g + ")", x.planned(d, g), y.planned(d, g)); break;
            default:
                due("count(" + w + ")", x.count(w), y.count(w));
                due("told(" + i + ")", x.told(i), y.told(i));
                break;
        }
    }

    private void text() {
        if (random.nextInt(10) != 0) {
            due("clear()", x.clear(), y.clear());
        }
        StringBuilder text = new StringBuilder();
        int orders = random.nextInt(8) == 0 ? random.nextInt(20) : 1 + random.nextInt(3);
        for (int i = 0; i < orders; i++) {
            text.append(order());
        }
        if (random.nextInt(3) == 0) {
            spoil(text);
        }
        text.setLength(Math.min(text.length(), MOST_TYPED));
        for (int i = 0; i < text.length(); i++) {
            due("type(" + (int) text.charAt(i) + ")", x.type(text.charAt(i)), y.type(text.charAt(i)));
        }
        due("does()", x.does(), y.does());
    }

    private void spoil(StringBuilder text) {
        String signs = "kuwdgp();0123456789  x" + (char) 0 + (char) 127 + (char) 9 + (char) 200;
        for (int times = 1 + random.nextInt(2); times > 0 && text.length() > 0; times--) {
            int place = random.nextInt(text.length());
            char sign = signs.charAt(random.nextInt(signs.length()));
            switch (random.nextInt(4)) {
                case 0: text.setCharAt(place, sign); break;
                case 1: text.insert(place, sign); break;
                case 2: text.deleteCharAt(place); break;
                default: text.setLength(place); break;
            }
        }
    }

    private String blanks() {
        return random.nextInt(4) == 0 ? " ".repeat(1 + random.nextInt(2)) : "";
    }

    private String figures(int n) {
        int value = n < 0 || n > 99 ? random.nextInt(100) : n;
        return value < 10 && random.nextInt(6) == 0 ? "0" + value : "" + value;
    }

    private String order() {
        int c = y.now.rules.isEmpty() ? 0 : random.nextInt(y.now.rules.size());
        switch (random.nextInt(8)) {
            case 0: return numbers('u', c, number(12), number(4));
            case 1: return numbers('w', c, number(12), number(3));
            case 2: return numbers('d', number(12), number(4));
            case 3: return numbers('g', c);
            case 4: return numbers('p', aCall());
            default: return cycles();
        }
    }

    private String numbers(char kind, int... ns) {
        StringBuilder order = new StringBuilder(blanks()).append(kind).append(blanks());
        for (int i = 0; i < ns.length; i++) {
            order.append(i > 0 ? " " : "").append(blanks()).append(figures(ns[i])).append(blanks());
        }
        return order.append(';').append(blanks()).toString();
    }

    private String cycles() {
        List<Integer> spots = new ArrayList<>();
        for (int s = 0; s < 12; s++) {
            spots.add(s);
        }
        Collections.shuffle(spots, random);
        StringBuilder order = new StringBuilder("k").append(blanks());
        int from = 0;
        for (int cycles = random.nextInt(4); cycles > 0 && from < 11; cycles--) {
            int length = Math.min(2 + random.nextInt(3), 12 - from);
            order.append('(');
            for (int i = from; i < from + length; i++) {
                order.append(i > from ? " " : "").append(blanks()).append(figures(spots.get(i)));
            }
            order.append(blanks()).append(')').append(blanks());
            from += length;
        }
        return order.append(';').toString();
    }
}
