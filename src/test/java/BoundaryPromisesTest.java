import java.util.function.Supplier;

/** The boundary cases that the promises name, but for those of THE TEXT: a test for each sentence. */
public final class BoundaryPromisesTest extends Checks {
    private static final Supplier<CalledSquare> SOME = Checks::some;
    private static final Supplier<CalledSquare> FULL_ONE = Checks::full;
    private static final Supplier<CalledSquare> NEW = CalledSquare::new;

    public static void main(String[] args) {
        newObject();
        dancerNumber();
        dancerBad();
        dancerFull();
        callStays();
        callFull();
        exchangesAnswer();
        exchangesBad();
        turnsAnswer();
        turnsBad();
        wantsAnswer();
        wantsBad();
        joinsAnswer();
        joinsRefused();
        backwardsAnswer();
        backwardsRefused();
        givesAnswer();
        givesRefused();
        homeAnswer();
        ofAnswer();
        ofBad();
        onAnswer();
        atAnswer();
        tellsAnswer();
        findsBounds();
        foundBounds();
        rowsBounds();
        plansAnswer();
        plansRefused();
        scrapsAnswer();
        judgesAnswer();
        plannedAnswer();
        countAnswer();
        countBits();
        countPlanned();
        countGiven();
        backAnswer();
        backRefused();
        toldAnswer();
        digestWrapsAround();
        digestOfEmptyAndFull();
        end();
    }

    /** A number just below, just above and far off what is told: each is refused, and nothing else changes. */
    private static void outside(String what, Supplier<CalledSquare> made, int least, int most, Asked call) {
        for (int w : new int[] {least - 1, most + 1, LEAST, MOST, most + 256, most + 65536}) {
            refused(what + " " + w, made, x -> call.ask(x, w), BAD);
        }
    }

    private interface Asked {
        int ask(CalledSquare x, int number);
    }

    private static void newObject() {
        promise(1, "As told; no DANCERS, no CALLS");
        CalledSquare x = new CalledSquare();
        for (int what = 0; what < 7; what++) {
            due("count(" + what + ")", x.count(what), 0);
        }
        for (int what = 0; what < 5; what++) {
            due("told(" + what + ")", x.told(what), 0);
        }
        due("judges()", x.judges(), NONE);
        due("finds(2, 5, 5)", x.finds(2, 5, 5), 0);
        due("scraps()", x.scraps(), 0);
        due("home()", x.home(), 0);
        due("clear()", x.clear(), 0);
        refused("dancer 0", NEW, y -> y.of(0, 0), BAD);
        refused("dancer 0 planned", NEW, y -> y.planned(0, 0), BAD);
        refused("call 0", NEW, y -> y.at(0, 0, 0), BAD);
        refused("call 0 told of", NEW, y -> y.tells(0, 0), BAD);
        refused("call 0 exchanged", NEW, y -> y.exchanges(0, 0, 1), BAD);
        refused("call 0 turned", NEW, y -> y.turns(0, 0, 0), BAD);
        refused("call 0 wanting", NEW, y -> y.wants(0, 0, 0), BAD);
        refused("call 0 joined", NEW, y -> y.joins(0, 0), BAD);
        refused("call 0 turned back", NEW, y -> y.backwards(0), BAD);
        refused("call 0 given", NEW, y -> y.gives(0), BAD);
        refused("call 0 planned", NEW, y -> y.plans(0), BAD);
        refused("back", NEW, y -> y.back(), NO);
        CalledSquare other = new CalledSquare();
        other.call();
        due("objects are apart", new CalledSquare().count(1), 0);
    }

    private static void dancerNumber() {
        promise(2, "A new DANCER: its number");
        for (int s = 0; s < 12; s++) {
            CalledSquare x = new CalledSquare();
            due("on spot " + s, x.dancer(s, s % 4), 0);
            due("it is there", x.on(s), 0);
            due("nobody elsewhere", x.on((s + 1) % 12), NONE);
        }
        CalledSquare y = withDancers(0, 1);
        y.back();
        due("a number taken back is given again", y.dancer(9, 3), 1);
        due("with the new spot", y.of(1, 0), 9);
        due("with the new home", y.of(1, 2), 9);
    }

    private static void dancerBad() {
        promise(2, "BAD: somebody is on the SPOT, or it is somebody's HOME, too");
        outside("spot", SOME, 0, 11, (x, w) -> x.dancer(w, 0));
        outside("facing", SOME, 0, 3, (x, w) -> x.dancer(7, w));
        refused("held by the first, its home elsewhere", () -> moved(0, 5), x -> x.dancer(5, 0), BAD);
        refused("home of the first, which is elsewhere", () -> moved(0, 5), x -> x.dancer(0, 0), BAD);
        refused("held by the last, its home elsewhere", () -> moved(11, 6), x -> x.dancer(6, 3), BAD);
        refused("home of the last, which is elsewhere", () -> moved(11, 6), x -> x.dancer(11, 3), BAD);
        refused("somebody at home", () -> moved(0, 5), x -> x.dancer(11, 1), BAD);
        CalledSquare y = moved(0, 5);
        due("neither", y.dancer(6, 0), 2);
        y.back();
        y.back();
        due("held no more, as the giving is taken back", y.dancer(5, 0), 2);
    }

    /** Dancers with their homes on 0 and 11; the one at home on the first spot is on the second now. */
    private static CalledSquare moved(int home, int now) {
        CalledSquare x = withDancers(0, 11);
        x.gives(cycle(x, home, now));
        return x;
    }

    private static void dancerFull() {
        promise(2, "FULL: 8");
        CalledSquare x = withDancers(0, 1, 2, 3, 4, 5, 6);
        leavesState("the eighth", () -> withDancers(11), y -> y.dancer(0, 0), 1);
        due("the eighth", x.dancer(7, 3), 7);
        due("the ninth", x.dancer(8, 0), FULL);
        due("the ninth, elsewhere", x.dancer(11, 3), FULL);
        due("refused FULL twice", x.told(2), 2);
        x.back();
        due("room again behind back()", x.dancer(8, 1), 7);
        due("full again", x.dancer(9, 1), FULL);
    }

    private static void callStays() {
        promise(3, "A new CALL by which every SPOT GOES to itself, TURNS and WANTS 0");
        CalledSquare x = withCalls(1);
        for (int s = 0; s < 12; s++) {
            x.exchanges(0, s, (s + 1) % 12);
            x.turns(0, s, 3);
            x.wants(0, s, 2);
        }
        due("another", x.call(), 1);
        for (int s = 0; s < 12; s++) {
            for (int what = 0; what < 3; what++) {
                due("spot " + s + ", " + what, x.at(1, s, what), what == 0 ? s : 0);
            }
        }
        CalledSquare y = new CalledSquare();
        due("a call taken back", does(y, "k(0 11);u0 0 3;w0 0 2;"), 3);
        y.back();
        due("its number again", y.call(), 0);
        for (int what = 0; what < 3; what++) {
            due("nothing of it is left, " + what, y.at(0, 0, what), 0);
        }
    }

    private static void callFull() {
        promise(3, "FULL: 8");
        CalledSquare x = withCalls(7);
        due("the eighth", x.call(), 7);
        due("the ninth", x.call(), FULL);
        due("refused FULL", x.told(2), 1);
        x.back();
        due("seven", x.count(1), 7);
        due("room again behind back()", x.call(), 7);
    }

    private static void exchangesAnswer() {
        promise(4, "Of CALL c SPOTS a and b GO to where the other one did: to where a GOES then");
        CalledSquare x = withCalls(8);
        due("first and last spot", x.exchanges(7, 0, 11), 11);
        due("0 goes", x.at(7, 0, 0), 11);
        due("11 goes", x.at(7, 11, 0), 0);
        due("again: to itself", x.exchanges(7, 0, 11), 0);
        due("the other way round", x.exchanges(7, 11, 0), 0);
        due("a third", x.exchanges(7, 5, 0), 11);
        due("0 goes then", x.at(7, 0, 0), 5);
        due("11 goes still", x.at(7, 11, 0), 0);
        due("call 0 stays", x.at(0, 0, 0), 0);
        due("call 6 stays", x.at(6, 0, 0), 0);
        CalledSquare y = withCalls(1);
        y.turns(0, 0, 3);
        y.wants(0, 0, 2);
        y.exchanges(0, 0, 1);
        due("turn stays", y.at(0, 0, 1), 3);
        due("no turn comes", y.at(0, 1, 1), 0);
        due("want stays", y.at(0, 0, 2), 2);
        due("no want comes", y.at(0, 1, 2), 0);
    }

    private static void exchangesBad() {
        promise(4, "BAD: alike, too");
        for (int s = 0; s < 12; s += 11) {
            int spot = s;
            refused("alike " + s, SOME, x -> x.exchanges(0, spot, spot), BAD);
        }
        refused("alike and no spot", SOME, x -> x.exchanges(0, 12, 12), BAD);
        outside("call", SOME, 0, 1, (x, w) -> x.exchanges(w, 0, 1));
        outside("call of eight", FULL_ONE, 0, 7, (x, w) -> x.exchanges(w, 0, 1));
        outside("a", SOME, 0, 11, (x, w) -> x.exchanges(0, w, 1));
        outside("b", SOME, 0, 11, (x, w) -> x.exchanges(0, 1, w));
    }

    private static void turnsAnswer() {
        promise(5, "TURN of SPOT s in CALL c becomes t: what it was");
        CalledSquare x = withCalls(8);
        int was = 0;
        for (int t : new int[] {3, 3, 0, 1, 2, 0}) {
            due("spot 11 of call 7 becomes " + t, x.turns(7, 11, t), was);
            due("it is", x.at(7, 11, 1), t);
            was = t;
        }
        due("spot 0 of call 0", x.turns(0, 0, 3), 0);
        due("spot 0 of call 7 stays", x.at(7, 0, 1), 0);
        due("want stays", x.at(0, 0, 2), 0);
        due("goes as ahead", x.at(0, 0, 0), 0);
    }

    private static void turnsBad() {
        promise(5, "BAD");
        outside("call", SOME, 0, 1, (x, w) -> x.turns(w, 0, 0));
        outside("call of eight", FULL_ONE, 0, 7, (x, w) -> x.turns(w, 0, 0));
        outside("spot", SOME, 0, 11, (x, w) -> x.turns(0, w, 0));
        outside("turn", SOME, 0, 3, (x, w) -> x.turns(0, 0, w));
    }

    private static void wantsAnswer() {
        promise(6, "WANT of SPOT s in CALL c becomes v: what it was");
        CalledSquare x = withCalls(8);
        int was = 0;
        for (int v : new int[] {2, 2, 1, 0, 1, 0}) {
            due("spot 11 of call 7 becomes " + v, x.wants(7, 11, v), was);
            due("it is", x.at(7, 11, 2), v);
            was = v;
        }
        due("spot 0 of call 0", x.wants(0, 0, 2), 0);
        due("spot 0 of call 7 stays", x.at(7, 0, 2), 0);
        due("turn stays", x.at(0, 0, 1), 0);
        due("goes as ahead", x.at(0, 0, 0), 0);
    }

    private static void wantsBad() {
        promise(6, "BAD");
        outside("call", SOME, 0, 1, (x, w) -> x.wants(w, 0, 0));
        outside("call of eight", FULL_ONE, 0, 7, (x, w) -> x.wants(w, 0, 0));
        outside("spot", SOME, 0, 11, (x, w) -> x.wants(0, w, 0));
        outside("want", SOME, 0, 2, (x, w) -> x.wants(0, 0, w));
    }

    private static void joinsAnswer() {
        promise(7, "A new CALL, a and b JOINED (a first; perhaps alike): its number");
        CalledSquare x = new CalledSquare();
        does(x, "k(0 1 2 3 4 5 6 7 8 9 10 11);u0 0 3;w0 11 1;");
        for (int c = 1; c < 8; c++) {
            due("call " + c, x.joins(c - 1, 0), c);
            due("0 goes", x.at(c, 0, 0), c + 1);
        }
        CalledSquare y = withCalls(1);
        y.turns(0, 5, 2);
        y.wants(0, 5, 1);
        due("alike", y.joins(0, 0), 1);
        due("turn 2 and 2", y.at(1, 5, 1), 0);
        due("want 1 and 1", y.at(1, 5, 2), 1);
        y.turns(0, 5, 3);
        due("what it is made of changes alone", y.at(1, 5, 1), 0);
    }

    private static void joinsRefused() {
        promise(7, "BAD");
        outside("a", SOME, 0, 1, (x, w) -> x.joins(w, 0));
        outside("b", SOME, 0, 1, (x, w) -> x.joins(0, w));
        outside("a of eight", FULL_ONE, 0, 7, (x, w) -> x.joins(w, 0));
        outside("b of eight", FULL_ONE, 0, 7, (x, w) -> x.joins(0, w));
        promise(7, "NO: they can not be");
        refused("one call with itself", () -> {
            CalledSquare x = new CalledSquare();
            does(x, "k(0 11);w0 0 1;w0 11 2;");
            return x;
        }, x -> x.joins(0, 0), NO);
        refused("NO ahead of FULL", FULL_ONE, x -> x.joins(1, 0), NO);
        promise(7, "FULL: 8");
        refused("FULL", FULL_ONE, x -> x.joins(7, 7), FULL);
        CalledSquare y = withCalls(7);
        due("the eighth", y.joins(6, 0), 7);
        due("the ninth", y.joins(6, 7), FULL);
    }

    private static void backwardsAnswer() {
        promise(8, "A new CALL, c TURNED BACK: its number");
        CalledSquare x = new CalledSquare();
        does(x, "k(0 11 5);u0 0 1;u0 11 2;u0 5 3;w0 0 1;w0 4 2;");
        due("turned back", x.backwards(0), 1);
        due("and again", x.backwards(1), 2);
        for (int s = 0; s < 12; s++) {
            for (int what = 0; what < 3; what++) {
                due("as ahead: spot " + s + ", " + what, x.at(2, s, what), x.at(0, s, what));
            }
        }
        x.exchanges(0, 0, 1);
        due("what it is made of changes alone", x.at(1, 11, 0), 0);
    }

    private static void backwardsRefused() {
        promise(8, "BAD");
        outside("call", SOME, 0, 1, (x, w) -> x.backwards(w));
        outside("call of eight", FULL_ONE, 0, 7, (x, w) -> x.backwards(w));
        promise(8, "FULL: 8");
        refused("FULL", FULL_ONE, x -> x.backwards(0), FULL);
        CalledSquare y = withCalls(7);
        due("the eighth", y.backwards(6), 7);
        due("the ninth", y.backwards(7), FULL);
    }

    private static void givesAnswer() {
        promise(9, "CALL c is GIVEN: how many DANCERS changed SPOT or FACING");
        CalledSquare x = withDancers(0, 1, 2, 3, 4, 5, 6, 7);
        does(x, "k(0 8)(1 9);u0 1 2;u0 2 1;u0 10 3;k;");
        due("one by spot, one by both, one by facing", x.gives(0), 3);
        due("nobody", x.gives(1), 0);
        for (int s = 0; s < 12; s++) {
            x.turns(1, s, 1);
        }
        due("all eight", x.gives(1), 8);
        CalledSquare y = withCalls(1);
        y.exchanges(0, 0, 1);
        due("nobody there", y.gives(0), 0);
        due("it is given all the same", y.count(6), 1);
    }

    private static void givesRefused() {
        promise(9, "BAD");
        outside("call", SOME, 0, 1, (x, w) -> x.gives(w));
        outside("call of eight", FULL_ONE, 0, 7, (x, w) -> x.gives(w));
        promise(9, "NO: it does not FIT");
        refused("a held spot is wanted, it is free", SOME, x -> x.gives(1), NO);
        refused("a free spot is wanted, it is held", () -> {
            CalledSquare x = some();
            x.wants(1, 7, 0);
            x.wants(1, 11, 2);
            return x;
        }, x -> x.gives(1), NO);
    }

    private static void homeAnswer() {
        promise(10, "All DANCERS are at HOME: how many were not");
        CalledSquare x = withDancers(0, 1, 2, 3, 4, 5, 6, 7);
        does(x, "k(0 1 2 3 4 5 6 7 8 9 10 11);k;u1 7 3;");
        due("all are", x.home(), 0);
        x.gives(0);
        due("none was", x.home(), 8);
        due("all are", x.count(2), 8);
        x.gives(1);
        due("the last, by facing alone", x.home(), 1);
        for (int d = 0; d < 8; d++) {
            due("spot of " + d, x.of(d, 0), d);
            due("facing of " + d, x.of(d, 1), 0);
        }
        due("given so far stays", x.count(6), 2);
        due("nobody", new CalledSquare().home(), 0);
    }

    private static void ofAnswer() {
        promise(11, "whether it is at HOME (4), its PARTNER (5; NONE: not there), whether they are PAIRED (6; 0 without)");
        CalledSquare x = withDancers(0, 1, 4, 5, 8, 9, 11);
        due("the last has no partner", x.of(6, 5), NONE);
        due("is not paired", x.of(6, 6), 0);
        due("NONE is no refusal", x.told(0), 0);
        due("is at home", x.of(6, 4), 1);
        x.dancer(10, 0);
        due("has one now", x.of(6, 5), 7);
        due("is paired now", x.of(6, 6), 1);
        due("the partner has it, too", x.of(7, 5), 6);
        due("the partner is paired, too", x.of(7, 6), 1);
        x.back();
        due("has none again", x.of(6, 5), NONE);
    }

    private static void ofBad() {
        promise(11, "BAD");
        outside("dancer", SOME, 0, 2, (x, w) -> x.of(w, 0));
        outside("dancer of eight", FULL_ONE, 0, 7, (x, w) -> x.of(w, 5));
        outside("what", SOME, 0, 6, (x, w) -> x.of(0, w));
        outside("what of the last", SOME, 0, 6, (x, w) -> x.of(2, w));
    }

    private static void onAnswer() {
        promise(12, "Who is on SPOT s; NONE");
        CalledSquare x = withDancers(11, 10, 9, 8, 7, 6, 5, 4);
        for (int s = 0; s < 12; s++) {
            due("on " + s, x.on(s), s < 4 ? NONE : 11 - s);
        }
        due("NONE is no refusal", x.told(0), 0);
        promise(12, "BAD");
        outside("spot", SOME, 0, 11, (y, w) -> y.on(w));
        outside("spot, nobody there", NEW, 0, 11, (y, w) -> y.on(w));
    }

    private static void atAnswer() {
        promise(13, "Of CALL c, SPOT s: where it GOES (what 0), TURN (1), WANT (2)");
        CalledSquare x = withCalls(8);
        for (int c = 0; c < 8; c += 7) {
            for (int s = 0; s < 12; s += 11) {
                x.exchanges(c, s, 4);
                x.turns(c, s, 3);
                x.wants(c, s, 2);
                due("goes", x.at(c, s, 0), s == 0 ? 4 : 0);
                due("turn", x.at(c, s, 1), 3);
                due("want", x.at(c, s, 2), 2);
            }
        }
        promise(13, "BAD");
        outside("call", SOME, 0, 1, (y, w) -> y.at(w, 0, 0));
        outside("call of eight", FULL_ONE, 0, 7, (y, w) -> y.at(w, 0, 0));
        outside("spot", SOME, 0, 11, (y, w) -> y.at(0, w, 0));
        outside("what", SOME, 0, 2, (y, w) -> y.at(0, 0, w));
    }

    private static void tellsAnswer() {
        promise(14, "Of CALL c: whether it FITS (what 0), how many SPOTS GO to others (1), ROUND (2), "
            + "how many WANTS are not 0 (3)");
        CalledSquare x = withCalls(1);
        due("none go", x.tells(0, 1), 0);
        due("no wants", x.tells(0, 3), 0);
        for (int s = 0; s < 11; s++) {
            x.exchanges(0, s, s + 1);
            due("so many go", x.tells(0, 1), s + 2);
        }
        for (int s = 0; s < 12; s++) {
            x.wants(0, s, 1 + s % 2);
            due("so many wants", x.tells(0, 3), s + 1);
        }
        due("all go round by twelve", x.tells(0, 2), 12);
        due("does not fit", x.tells(0, 0), 0);
        x.turns(0, 5, 2);
        due("a turn is no going", x.tells(0, 1), 12);
        promise(14, "BAD");
        outside("call", SOME, 0, 1, (y, w) -> y.tells(w, 0));
        outside("call of eight", FULL_ONE, 0, 7, (y, w) -> y.tells(w, 0));
        outside("what", SOME, 0, 3, (y, w) -> y.tells(0, w));
    }

    private static void findsBounds() {
        promise(15, "FOUND for GOAL g by n (0 .. 5) and v (1 .. 5): how many CALLS; NONE: there is none");
        for (int g = 0; g < 3; g++) {
            for (int n = 0; n <= 5; n++) {
                for (int v = 1; v <= 5; v++) {
                    CalledSquare x = withDancers(0, 2);
                    x.gives(cycle(x, 0, 11));
                    int want = g == 0 && n > 0 ? 1 : NONE;
                    due("finds(" + g + ", " + n + ", " + v + ")", x.finds(g, n, v), want);
                    due("NONE is no refusal", x.told(0), 0);
                }
            }
        }
        due("no calls", withDancers(0, 2).finds(1, 5, 5), NONE);
        promise(15, "BAD");
        outside("goal", SOME, 0, 2, (x, w) -> x.finds(w, 5, 5));
        outside("n", SOME, 0, 5, (x, w) -> x.finds(0, w, 1));
        outside("v", SOME, 1, 5, (x, w) -> x.finds(0, 0, w));
        outside("n, though all are home", NEW, 0, 5, (x, w) -> x.finds(0, w, 1));
        outside("v, though all are home", NEW, 1, 5, (x, w) -> x.finds(0, 0, w));
    }

    private static void foundBounds() {
        promise(16, "The i-th CALL (0 on) of what is FOUND so; NONE: not so many, or none is");
        Supplier<CalledSquare> made = BoundaryPromisesTest::fiveStepsAway;
        for (int i = 0; i < 5; i++) {
            int place = i;
            asks("call " + i, made, x -> x.found(0, 5, 1, place), 4 - i);
        }
        for (int i : new int[] {5, 6, 7, 8, 12, 256, MOST}) {
            asks("not so many: " + i, made, x -> x.found(0, 5, 1, i), NONE);
            asks("none is: " + i, made, x -> x.found(0, 4, 1, i), NONE);
            asks("found without calls: " + i, NEW, x -> x.found(0, 5, 1, i), NONE);
        }
        asks("none is", made, x -> x.found(0, 4, 1, 0), NONE);
        asks("found without calls", NEW, x -> x.found(0, 5, 5, 0), NONE);
        promise(16, "BAD: i below 0, too");
        for (int i : new int[] {-1, -2, LEAST}) {
            refused("i " + i, made, x -> x.found(0, 5, 1, i), BAD);
            refused("i " + i + ", none is", made, x -> x.found(0, 4, 1, i), BAD);
        }
        outside("goal", made, 0, 2, (x, w) -> x.found(w, 5, 5, 0));
        outside("n", made, 0, 5, (x, w) -> x.found(0, w, 5, 0));
        outside("v", made, 1, 5, (x, w) -> x.found(0, 5, w, 0));
        outside("goal, i far off", made, 0, 2, (x, w) -> x.found(w, 5, 5, MOST));
    }

    /** Home is on 0; calls 4, 3, 2, 1, 0 lead there from 5. */
    private static CalledSquare fiveStepsAway() {
        CalledSquare x = withDancers(0);
        for (int c = 0; c < 5; c++) {
            cycle(x, c, c + 1);
        }
        for (int c = 0; c < 5; c++) {
            x.gives(c);
        }
        return x;
    }

    private static void rowsBounds() {
        promise(17, "How many ROWS of just n (0 .. 4) CALLS GO (VARIED or not), behind which GOAL g is so");
        int[] all = {1, 8, 64, 512, 4096};
        CalledSquare many = withCalls(8);
        CalledSquare none = new CalledSquare();
        CalledSquare away = withDancers(0);
        away.gives(cycle(away, 0, 1));
        away.exchanges(0, 0, 1);
        CalledSquare once = withCalls(8);
        once.dancer(0, 0);
        once.exchanges(7, 0, 1);
        for (int n = 0; n <= 4; n++) {
            for (int g = 0; g < 3; g++) {
                due("eight calls, rows of " + n, many.rows(g, n), all[n]);
                due("no calls, rows of " + n, none.rows(g, n), n == 0 ? 1 : 0);
                due("never home, rows of " + n + ", goal " + g, away.rows(g, n), g == 1 ? 1 : 0);
            }
            due("seven that stay, one that goes, rows of " + n, once.rows(0, n), evenRows(n));
        }
        due("rows of just one, though none is enough", once.rows(0, 1), 7);
        many.wants(7, 0, 1);
        due("one does not fit", many.rows(0, 4), 7 * 7 * 7 * 7);
        promise(17, "BAD");
        outside("goal", SOME, 0, 2, (x, w) -> x.rows(w, 0));
        outside("n", SOME, 0, 4, (x, w) -> x.rows(0, w));
        outside("n, nobody there", NEW, 0, 4, (x, w) -> x.rows(0, w));
    }

    /** Rows of n out of eight calls in which one of them is an even number of times. */
    private static int evenRows(int n) {
        int even = 1;
        int odd = 0;
        for (int i = 0; i < n; i++) {
            int more = 7 * even + odd;
            odd = 7 * odd + even;
            even = more;
        }
        return even;
    }

    private static void plansAnswer() {
        promise(18, "CALL c comes behind THE PLAN: how many it has");
        CalledSquare x = withDancers(0);
        does(x, "k(0 1);k(1 2);k(2 3);");
        for (int c = 0; c < 3; c++) {
            due("plan", x.plans(c), c + 1);
            due("behind those ahead", x.planned(0, 0), c + 1);
        }
        due("one that is in it", x.plans(2), 4);
        due("once more right behind itself", x.plans(2), 5);
        due("spot", x.planned(0, 0), 3);
    }

    private static void plansRefused() {
        promise(18, "BAD");
        outside("call", SOME, 0, 1, (x, w) -> x.plans(w));
        outside("call of eight", FULL_ONE, 0, 7, (x, w) -> x.plans(w));
        promise(18, "FULL: 12");
        refused("FULL", FULL_ONE, x -> x.plans(0), FULL);
        refused("FULL, the last call", FULL_ONE, x -> x.plans(7), FULL);
        CalledSquare y = withCalls(1);
        for (int i = 1; i <= 11; i++) {
            y.plans(0);
        }
        due("the 12th", y.plans(0), 12);
        due("the 13th", y.plans(0), FULL);
        y.back();
        due("room again behind back()", y.plans(0), 12);
        due("full again", y.plans(0), FULL);
        due("emptied", y.scraps(), 12);
        due("room again behind scraps()", y.plans(0), 1);
    }

    private static void scrapsAnswer() {
        promise(19, "THE PLAN is empty: how many it had");
        for (int n = 0; n <= 12; n++) {
            CalledSquare x = withCalls(1);
            x.wants(0, 0, 1);
            for (int i = 0; i < n; i++) {
                x.plans(0);
            }
            due("plan of " + n, x.scraps(), n);
            due("empty", x.count(5), 0);
            due("nothing to judge", x.judges(), NONE);
            due("empty again", x.scraps(), 0);
            x.back();
            x.back();
            due("back", x.count(5), n);
        }
        CalledSquare y = withDancers(0);
        does(y, "k(0 1);k(0 2);p0;");
        y.scraps();
        y.plans(1);
        due("another plan", y.planned(0, 0), 2);
        y.back();
        due("empty again", y.planned(0, 0), 0);
        y.back();
        due("the plan that was scrapped, as it was", y.planned(0, 0), 1);
    }

    private static void judgesAnswer() {
        promise(20, "JUDGED: the first CALL of THE PLAN (its place, 0 on) that does not FIT; NONE: it GOES");
        for (int place = 0; place <= 12; place++) {
            CalledSquare x = withDancers(0);
            does(x, "k;k(0 1);w1 11 1;");
            for (int i = 0; i < 12; i++) {
                x.plans(i < place ? 0 : 1);
            }
            due("those from " + place + " on do not fit", x.judges(), place == 12 ? NONE : place);
            due("no refusal", x.told(0) + x.told(1) + x.told(2), 0);
        }
        CalledSquare y = withDancers(0);
        due("empty", y.judges(), NONE);
        does(y, "k(0 1);w0 0 1;p0;p0;");
        due("fits now, not behind itself", y.judges(), 1);
        does(y, "k(1 0);w1 1 1;");
        y.scraps();
        y.plans(0);
        y.plans(1);
        due("does not fit now, but behind the other", y.judges(), NONE);
    }

    private static void plannedAnswer() {
        promise(21, "SPOT (what 0), FACING (1) of DANCER d behind THE PLAN as far as it GOES");
        for (int place = 0; place <= 12; place++) {
            CalledSquare x = new CalledSquare();
            x.dancer(0, 3);
            x.dancer(11, 1);
            does(x, "k(0 1 2 3 4 5 6 7 8 9 10);u0 0 2;k;u1 11 1;w1 11 2;");
            for (int i = 0; i < 12; i++) {
                x.plans(i == place ? 1 : 0);
            }
            due("spot, stopped at " + place, x.planned(0, 0), place % 11);
            due("facing, stopped at " + place, x.planned(0, 1), place == 0 || place == 12 ? 3 : 1);
            due("the other's spot", x.planned(1, 0), 11);
            due("the other's facing", x.planned(1, 1), 1);
            due("nothing is given", x.of(0, 0), 0);
        }
        promise(21, "BAD");
        outside("dancer", SOME, 0, 2, (x, w) -> x.planned(w, 0));
        outside("dancer of eight", FULL_ONE, 0, 7, (x, w) -> x.planned(w, 0));
        outside("what", SOME, 0, 1, (x, w) -> x.planned(0, w));
    }

    private static void countAnswer() {
        promise(22, "DANCERS (what 0), CALLS (1), those at HOME (2), PARTNERS that are PAIRED (3)");
        CalledSquare x = full();
        due("dancers", x.count(0), 8);
        due("calls", x.count(1), 8);
        due("at home: all but 0, 1, 2", x.count(2), 5);
        due("plan", x.count(5), 12);
        due("paired: 0 and 1, as 0 was turned", x.count(3), 1);
        CalledSquare y = new CalledSquare();
        for (int d = 0; d < 8; d++) {
            y.dancer(d, 2);
            due("dancers", y.count(0), d + 1);
            due("at home", y.count(2), d + 1);
            due("pairs, each counted once", y.count(3), (d + 1) / 2);
        }
        promise(22, "BAD");
        outside("what", SOME, 0, 6, (z, w) -> z.count(w));
        outside("what, nobody there", NEW, 0, 6, (z, w) -> z.count(w));
    }

    private static void countBits() {
        promise(22, "CALLS that FIT (4, bits)");
        CalledSquare x = new CalledSquare();
        due("no calls", x.count(4), 0);
        for (int c = 0; c < 8; c++) {
            x.call();
            due("all fit", x.count(4), (1 << c + 1) - 1);
        }
        for (int c = 0; c < 8; c++) {
            x.wants(c, c, 1);
            due("all but " + c, x.count(4), 255 - (1 << c));
            x.wants(c, c, 0);
        }
        for (int c = 0; c < 8; c++) {
            x.wants(c, 11, 1);
        }
        due("none fits", x.count(4), 0);
    }

    private static void countPlanned() {
        promise(22, "how many are in THE PLAN (5)");
        CalledSquare x = withCalls(1);
        for (int n = 0; n <= 13; n++) {
            due("so many", x.count(5), Math.min(n, 12));
            x.plans(0);
        }
        x.scraps();
        due("none", x.count(5), 0);
        x.back();
        due("all again", x.count(5), 12);
    }

    private static void countGiven() {
        promise(22, "CALLS GIVEN so far (6; those taken back not)");
        CalledSquare x = withDancers(0);
        does(x, "k(0 1);k;w1 11 1;");
        x.gives(0);
        x.gives(1);
        x.gives(2);
        x.home();
        x.plans(0);
        x.judges();
        due("refused, planned, sent home: not given", x.count(6), 1);
        does(x, "g0;g0;");
        due("by the text, too", x.count(6), 3);
        does(x, "g0;g1;");
        due("an order that ends all", x.count(6), 3);
        x.back();
        due("the text's taken back", x.count(6), 1);
        x.back();
        x.back();
        due("still", x.count(6), 1);
        x.back();
        due("taken back", x.count(6), 0);
    }

    private static void backAnswer() {
        promise(26, "A STATE back: how many can be yet");
        for (int states = 1; states <= 7; states++) {
            CalledSquare x = withCalls(states);
            int kept = Math.min(states, 5);
            for (int left = kept - 1; left >= 0; left--) {
                due("of " + states, x.back(), left);
                due("calls", x.count(1), states - kept + left);
            }
        }
        CalledSquare y = withCalls(5);
        y.back();
        y.back();
        due("states again behind some gone back", y.call(), 3);
        due("four", y.told(4), 4);
        due("back", y.back(), 3);
        y.call();
        y.call();
        y.call();
        due("five", y.told(4), 5);
        due("back", y.back(), 4);
        due("calls", y.count(1), 5);
    }

    private static void backRefused() {
        promise(26, "NO: none");
        refused("of a new one", NEW, x -> x.back(), NO);
        refused("of one whose calls are refused alone", () -> {
            CalledSquare x = new CalledSquare();
            x.dancer(12, 0);
            x.gives(0);
            does(x, "g0;");
            does(x, "k");
            return x;
        }, x -> x.back(), NO);
        refused("behind the last", () -> {
            CalledSquare x = withCalls(7);
            for (int i = 0; i < 5; i++) {
                x.back();
            }
            return x;
        }, x -> x.back(), NO);
        CalledSquare y = withCalls(6);
        for (int i = 0; i < 5; i++) {
            y.back();
        }
        due("none", y.back(), NO);
        due("again none", y.back(), NO);
        due("one", y.call(), 1);
        due("one back", y.back(), 0);
        due("refused NO", y.told(1), 2);
    }

    private static void toldAnswer() {
        promise(27, "How often refused: BAD (0), NO (1), FULL (2); bytes of THE TEXT (3), STATES (4)");
        CalledSquare x = full();
        for (int what = 0; what < 3; what++) {
            due("nothing refused " + what, x.told(what), 0);
        }
        due("bytes", x.told(3), 120);
        due("states", x.told(4), 5);
        for (int i = 1; i <= 3; i++) {
            x.on(-1);
            x.gives(1);
            x.call();
            for (int what = 0; what < 3; what++) {
                due("refused " + i + " times, " + what, x.told(what), i);
            }
        }
        promise(27, "BAD");
        outside("what", SOME, 0, 4, (y, w) -> y.told(w));
        outside("what, of a new one", NEW, 0, 4, (y, w) -> y.told(w));
    }

    private static long mix(long h, long... values) {
        for (long v : values) {
            h = 31 * h + v;
        }
        return h;
    }

    private static void digestWrapsAround() {
        promise(28, "h = 2633; then h = 31 h + v for each v");
        CalledSquare x = new CalledSquare();
        long h = mix(2633, 0, 0, 0, 0, 0, 0, 0, 0, 0, 0, 0, 0);
        due("nothing but the start", x.digest(), h);
        x.call();
        h = mix(2633, 0, 0, 0, 0, 1, 0, 1, 0, 0, 1, 0, 0);
        for (int s = 0; s < 12; s++) {
            h = mix(h, s, 0, 0);
        }
        due("one call, the long wraps around", x.digest(), mix(h, 1, 0, 1, 0));
        CalledSquare y = withDancers(11);
        h = mix(2633, 0, 0, 0, 0, 1, 1, 0, 1, 0, 0, 0, 0);
        due("a partner that is NONE", y.digest(), mix(h, 11, 0, 11, 0, 1, -1, 0));
    }

    private static void digestOfEmptyAndFull() {
        promise(28, "told(0) to told(4); count(0) to count(6); of each DANCER of(0) to of(6); "
            + "of each CALL, of each SPOT of it at(0) to at(2), then tells(0) to tells(3); THE PLAN");
        CalledSquare x = full();
        CalledSquare y = full();
        x.on(12);
        y.on(12);
        x.call();
        y.call();
        long h = 2633;
        for (int what = 0; what < 5; what++) {
            h = mix(h, y.told(what));
        }
        for (int what = 0; what < 7; what++) {
            h = mix(h, y.count(what));
        }
        for (int d = 0; d < 8; d++) {
            for (int what = 0; what < 7; what++) {
                h = mix(h, y.of(d, what));
            }
        }
        for (int c = 0; c < 8; c++) {
            h = mix(h, digestOfFullCall(c));
        }
        due("all there may be", x.digest(), mix(h, 0, 1, 2, 3, 4, 5, 6, 7, 0, 1, 2, 3));
        due("and again", x.digest(), mix(h, 0, 1, 2, 3, 4, 5, 6, 7, 0, 1, 2, 3));
    }

    /** What is told of call c of a full square, asked of another one, as 512 calls would not do for both. */
    private static long[] digestOfFullCall(int c) {
        CalledSquare x = full();
        long[] told = new long[12 * 3 + 4];
        for (int i = 0; i < 36; i++) {
            told[i] = x.at(c, i / 3, i % 3);
        }
        for (int what = 0; what < 4; what++) {
            told[36 + what] = x.tells(c, what);
        }
        return told;
    }
}
