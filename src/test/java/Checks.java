import java.io.IOException;
import java.nio.file.Files;
import java.nio.file.Path;
import java.util.function.Supplier;
import java.util.function.ToIntFunction;

/**
 * What the tests share: answers held against what is due, squares in some state, refusals.
 * A test extends it, because a class without a package can not be imported.
 */
abstract class Checks {
    static final int NONE = -1, BAD = -2, NO = -3, FULL = -4;
    static final int LEAST = Integer.MIN_VALUE, MOST = Integer.MAX_VALUE;

    private static final Path DOCUMENT = Path.of("../shared/DOC.md");

    private static String document = "";
    private static String about = "";
    private static int asked = 0;
    private static int wrong = 0;

    /** What is looked at from here on is told with these words where it fails. */
    static void about(String words) {
        about = words;
    }

    /** The sentence of the terms that is tested from here on, in the document's own words. */
    static void term(String words) {
        sentence("## Terms", words);
    }

    /** The sentence of a promise that is tested from here on, in the document's own words. */
    static void promise(int number, String words) {
        sentence("## Promise " + number + ":", words);
    }

    static void sentence(String heading, String words) {
        about(heading.substring(3) + " \"" + words + "\"");
        if (!section(heading).contains(words)) {
            fail("the document does not say so");
        }
    }

    private static String section(String heading) {
        if (document.isEmpty()) {
            try {
                document = Files.readString(DOCUMENT).replaceAll("\\s+", " ") + " ## ";
            } catch (IOException e) {
                throw new IllegalStateException("no document at " + DOCUMENT.toAbsolutePath(), e);
            }
        }
        int start = document.indexOf(heading);
        return start < 0 ? "" : document.substring(start, document.indexOf(" ## ", start));
    }

    static void due(String what, long got, long want) {
        asked++;
        if (got != want) {
            fail(what + " answered " + got + ", due is " + want);
        }
    }

    static void fail(String what) {
        wrong++;
        System.out.println(about + ": " + what);
    }

    static void end() {
        System.out.println(asked + " answers looked at, " + wrong + " wrong");
        if (wrong != 0) {
            System.exit(1);
        }
    }

    // ---- squares in some state

    static CalledSquare withCalls(int n) {
        CalledSquare x = new CalledSquare();
        for (int i = 0; i < n; i++) {
            x.call();
        }
        return x;
    }

    /** Dancers on the spots, all facing 0. */
    static CalledSquare withDancers(int... spots) {
        CalledSquare x = new CalledSquare();
        for (int s : spots) {
            x.dancer(s, 0);
        }
        return x;
    }

    /** A call by which the spots go round: each to the next, the last to the first. */
    static int cycle(CalledSquare x, int... spots) {
        int c = x.call();
        for (int i = 1; i < spots.length; i++) {
            x.exchanges(c, spots[i - 1], spots[i]);
        }
        return c;
    }

    static void write(CalledSquare x, String text) {
        x.clear();
        for (int i = 0; i < text.length(); i++) {
            x.type(text.charAt(i));
        }
    }

    static int does(CalledSquare x, String text) {
        write(x, text);
        return x.does();
    }

    /** Three dancers, two calls, a plan, a text, refusals and states, and room for more of each. */
    static CalledSquare some() {
        CalledSquare x = new CalledSquare();
        does(x, "k(0 1 2)(4 5);d0 3;d1 1;d11 2;u0 0 3;w0 3 2;p0;");
        x.call();
        x.wants(1, 7, 1);
        x.gives(1);
        x.on(12);
        x.gives(0);
        return x;
    }

    /** As much of everything as there may be: dancers, calls, the plan, bytes, states. */
    static CalledSquare full() {
        CalledSquare x = new CalledSquare();
        does(x, "k(0 1 2)(8 9);u0 0 1;w0 11 2;k;w1 11 1;k;k;k;k;k;k;");
        does(x, "d0 0;d1 1;d2 2;d3 3;d4 0;d5 1;d6 2;d7 3;");
        does(x, "p0;p1;p2;p3;p4;p5;p6;p7;p0;p1;p2;");
        x.plans(3);
        x.gives(0);
        write(x, "g0;".repeat(39) + "g1;");
        return x;
    }

    // ---- what changes

    /** How many values the digest is made of. */
    private static int values(CalledSquare x) {
        return 5 + 7 + 7 * x.count(0) + (12 * 3 + 4) * x.count(1) + x.count(5);
    }

    /** How much the digest grows, if told(what) grows by 1 and nothing else becomes other. */
    private static long weight(CalledSquare x, int what) {
        long w = 1;
        for (int i = values(x) - 1; i > what; i--) {
            w *= 31;
        }
        return w;
    }

    /**
     * The call is refused by the code on one of two squares made alike; behind it they are alike
     * but for how often it was refused, now and in each state that they can go back to.
     */
    static void refused(String what, Supplier<CalledSquare> made, ToIntFunction<CalledSquare> call, int code) {
        CalledSquare x = made.get();
        CalledSquare y = made.get();
        due(what, call.applyAsInt(x), code);
        due(what + " is counted once, nothing else changes", x.digest() - y.digest(), weight(y, BAD - code));
        alikeBehind(what, x, y, BAD - code);
    }

    /** The call answers without being refused, and changes nothing at all. */
    static void asks(String what, Supplier<CalledSquare> made, ToIntFunction<CalledSquare> call, int want) {
        CalledSquare x = made.get();
        CalledSquare y = made.get();
        due(what, call.applyAsInt(x), want);
        due(what + " changes nothing", x.digest() - y.digest(), 0);
        alikeBehind(what, x, y, NONE);
    }

    private static void alikeBehind(String what, CalledSquare x, CalledSquare y, int told) {
        for (int states = y.told(4); states > 0; states--) {
            due(what + ", then back()", x.back(), y.back());
            long more = told == NONE ? 0 : weight(y, told);
            due(what + ", " + states + " states later gone back to", x.digest() - y.digest(), more);
        }
        due(what + ", then does()", x.does(), y.does());
    }

    /** The call leaves a state, by which all is as it was ahead of it, but for an older state lost. */
    static void leavesState(String what, Supplier<CalledSquare> made, ToIntFunction<CalledSquare> call, int want) {
        CalledSquare x = made.get();
        int states = x.told(4);
        long before = x.digest();
        due(what, call.applyAsInt(x), want);
        due(what + " leaves a state", x.told(4), Math.min(states + 1, 5));
        due(what + ", then back()", x.back(), Math.min(states, 4));
        due(what + " is taken back", x.digest() - before, states < 5 ? 0 : -weight(x, 4));
    }
}
